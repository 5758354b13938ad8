-- X9_locate
def rmX9_locate : Room := { frames := 41, cells := 0, slots := 0, locals := 1071 }
set_option maxHeartbeats 4000000 in
set_option maxRecDepth 100000 in
theorem zX9_locate {l : Launch} {D : va_G} {cI cZ cQ : ClassId} {h_t h_w h_b h_T h_L h_P : Nat → Nat} {r_l r_H r_x r_C r_d r_F r_r r_n : Nat} {u_w u_t u_b u_T u_L u_P : Pk} {a1 : Int32} {a2 : Int32} {r0 : Int32} {v_t v_b v_T v_L v_P : Pk} (hf : fX9_locate u_w u_t u_b u_T u_L u_P a1 a2 = some (r0, v_t, v_b, v_T, v_L, v_P)) : MI l yX9_locate wsX9_locate rmX9_locate D (TY cI cZ cQ) [.ref (h_t 0), .int a1, .int a2] [nX9 cI cZ cQ h_t (h_w 0) (h_b 0) r_l r_H r_x (h_T 0) r_C r_d r_F r_r r_n u_t, nX8 cI cZ cQ h_w u_w, nX8 cI cZ cQ h_b u_b, nX6 cI cZ cQ h_T (h_w 0) (h_L 0) (h_P 0) u_T, nX4 cI cZ cQ h_L (h_w 0) u_L, nX4 cI cZ cQ h_P (h_w 0) u_P] r0 [nX9 cI cZ cQ h_t (h_w 0) (h_b 0) r_l r_H r_x (h_T 0) r_C r_d r_F r_r r_n v_t, nX8 cI cZ cQ h_w u_w, nX8 cI cZ cQ h_b v_b, nX6 cI cZ cQ h_T (h_w 0) (h_L 0) (h_P 0) v_T, nX4 cI cZ cQ h_L (h_w 0) v_L, nX4 cI cZ cQ h_P (h_w 0) v_P] := by
  refine MI.of (own := RX9) (by decide +kernel) rfl rfl (Nat.le_of_ble_eq_true rfl) (lv0 := [(0, .ref (h_t 0)), (1, .int a1), (2, .int a2)]) rfl ?_
  intro X O E
  unfold fX9_locate at hf
  refine r_ild_n O 1 rfl 1 rfl dX9_locate_0 ?_
  refine r_ild_n O 2 rfl 2 rfl dX9_locate_1 ?_
  obtain ⟨x2, hq2, hf⟩ := qb1_some hf
  refine k_SZ O 5 rfl (zX9_isBadPoint (l := xl X) (D := xD X) (cI := cI) (cZ := cZ) (cQ := cQ) hq2) (gS mlX9_86 mvX9_isBadPoint izX9) rfl rfl rfl hdX9_isBadPoint ⟨Nat.le_of_ble_eq_true rfl, Nat.le_of_ble_eq_true rfl⟩ rfl rfl (Nat.le_of_ble_eq_true rfl) ⟨Nat.zero_le _, Nat.zero_le _⟩ [] rfl rfl rfl ([nX9 cI cZ cQ h_t (h_w 0) (h_b 0) r_l r_H r_x (h_T 0) r_C r_d r_F r_r r_n u_t, nX8 cI cZ cQ h_w u_w, nX8 cI cZ cQ h_b u_b, nX6 cI cZ cQ h_T (h_w 0) (h_L 0) (h_P 0) u_T, nX4 cI cZ cQ h_L (h_w 0) u_L, nX4 cI cZ cQ h_P (h_w 0) u_P]) rfl dX9_locate_2 (fun hz2 => ?_)
  refine r_if_eq O 8 rfl 11 dX9_locate_5 (by decide) (fun hc5 => ?_) (fun hc5 => ?_)
  · rw [if_pos hc5] at hf
    refine r_ald_n O 12 rfl 0 rfl dX9_locate_11 ?_
    obtain ⟨p12_t, p12_b, p12_T, p12_L, p12_P, hq12, hf⟩ := qb5_some hf
    refine k_VV O 15 rfl (zX9_needTree (l := xl X) (D := xD X) (cI := cI) (cZ := cZ) (cQ := cQ) (h_t := h_t) (h_w := h_w) (h_b := h_b) (r_l := r_l) (r_H := r_H) (r_x := r_x) (h_T := h_T) (h_L := h_L) (h_P := h_P) (r_C := r_C) (r_d := r_d) (r_F := r_F) (r_r := r_r) (r_n := r_n) hq12) (gV mlX9_197 mvX9_needTree izX9) rfl rfl rfl hdX9_needTree ⟨Nat.le_of_ble_eq_true rfl, Nat.le_of_ble_eq_true rfl⟩ rfl 0 rfl rfl rfl rfl (Nat.le_of_ble_eq_true rfl) ⟨Nat.zero_le _, Nat.zero_le _⟩ [0, 1, 2, 3, 4, 5] rfl rfl rfl ([nX9 cI cZ cQ h_t (h_w 0) (h_b 0) r_l r_H r_x (h_T 0) r_C r_d r_F r_r r_n p12_t, nX8 cI cZ cQ h_w u_w, nX8 cI cZ cQ h_b p12_b, nX6 cI cZ cQ h_T (h_w 0) (h_L 0) (h_P 0) p12_T, nX4 cI cZ cQ h_L (h_w 0) p12_L, nX4 cI cZ cQ h_P (h_w 0) p12_P]) rfl dX9_locate_12 ?_
    refine r_ald_n O 16 rfl 0 rfl dX9_locate_15 ?_
    refine r_get (ref := RX9) (C := RX9) (T := TX9) (N := 13) O 19 rfl inBX9 0 5 rfl rfl rfl (by decide) flX9_41 rfl rfl dX9_locate_16 ?_
    refine r_ild_n O 20 rfl 1 rfl dX9_locate_19 ?_
    refine r_ild_n O 21 rfl 2 rfl dX9_locate_20 ?_
    obtain ⟨x21, hq21, hf⟩ := qb1_some hf
    refine k_VI O 24 rfl (zX6_leafAt (l := xl X) (D := xD X) (cI := cI) (cZ := cZ) (cQ := cQ) (h_t := h_T) (h_w := h_w) (r_L := (h_L 0)) (r_P := (h_P 0)) hq21) (gV mlX9_246 mvX6_leafAt izX6) rfl rfl rfl hdX6_leafAt ⟨Nat.le_of_ble_eq_true rfl, Nat.le_of_ble_eq_true rfl⟩ rfl 3 rfl rfl rfl rfl (Nat.le_of_ble_eq_true rfl) ⟨Nat.zero_le _, Nat.zero_le _⟩ [3, 1] rfl rfl rfl ([nX9 cI cZ cQ h_t (h_w 0) (h_b 0) r_l r_H r_x (h_T 0) r_C r_d r_F r_r r_n p12_t, nX8 cI cZ cQ h_w u_w, nX8 cI cZ cQ h_b p12_b, nX6 cI cZ cQ h_T (h_w 0) (h_L 0) (h_P 0) p12_T, nX4 cI cZ cQ h_L (h_w 0) p12_L, nX4 cI cZ cQ h_P (h_w 0) p12_P]) rfl dX9_locate_21 ?_
    obtain ⟨g0, g1, g2, g3, g4, g5⟩ := qe6 hf
    exact r_iret2 O E g0 (by rw [g1, g2, g3, g4, g5]) dX9_locate_24
  · rw [if_neg hc5] at hf
    refine r_bi O 10 rfl (-2) (by decide) dX9_locate_8 ?_
    obtain ⟨g0, g1, g2, g3, g4, g5⟩ := qe6 hf
    exact r_iret2 O E g0 (by rw [g1, g2, g3, g4, g5]) dX9_locate_10
-- X9_meanLeafDepth
def rmX9_meanLeafDepth : Room := { frames := 41, cells := 0, slots := 0, locals := 1071 }
set_option maxHeartbeats 4000000 in
set_option maxRecDepth 100000 in
theorem zX9_meanLeafDepth {l : Launch} {D : va_G} {cI cZ cQ : ClassId} {h_t h_w h_b h_T h_L h_P : Nat → Nat} {r_l r_H r_x r_C r_d r_F r_r r_n : Nat} {u_w u_t u_b u_T u_L u_P : Pk} {r0 : UInt64} {v_t v_b v_T v_L v_P : Pk} (hf : fX9_meanLeafDepth u_w u_t u_b u_T u_L u_P = some (r0, v_t, v_b, v_T, v_L, v_P)) : MD l yX9_meanLeafDepth wsX9_meanLeafDepth rmX9_meanLeafDepth D (TY cI cZ cQ) [.ref (h_t 0)] [nX9 cI cZ cQ h_t (h_w 0) (h_b 0) r_l r_H r_x (h_T 0) r_C r_d r_F r_r r_n u_t, nX8 cI cZ cQ h_w u_w, nX8 cI cZ cQ h_b u_b, nX6 cI cZ cQ h_T (h_w 0) (h_L 0) (h_P 0) u_T, nX4 cI cZ cQ h_L (h_w 0) u_L, nX4 cI cZ cQ h_P (h_w 0) u_P] r0 [nX9 cI cZ cQ h_t (h_w 0) (h_b 0) r_l r_H r_x (h_T 0) r_C r_d r_F r_r r_n v_t, nX8 cI cZ cQ h_w u_w, nX8 cI cZ cQ h_b v_b, nX6 cI cZ cQ h_T (h_w 0) (h_L 0) (h_P 0) v_T, nX4 cI cZ cQ h_L (h_w 0) v_L, nX4 cI cZ cQ h_P (h_w 0) v_P] := by
  refine MD.of (own := RX9) (by decide +kernel) rfl rfl (Nat.le_of_ble_eq_true rfl) (lv0 := [(0, .ref (h_t 0))]) rfl ?_
  intro X O E
  unfold fX9_meanLeafDepth at hf
  refine r_ald_n O 1 rfl 0 rfl dX9_meanLeafDepth_0 ?_
  obtain ⟨p1_t, p1_b, p1_T, p1_L, p1_P, hq1, hf⟩ := qb5_some hf
  refine k_VV O 4 rfl (zX9_needTree (l := xl X) (D := xD X) (cI := cI) (cZ := cZ) (cQ := cQ) (h_t := h_t) (h_w := h_w) (h_b := h_b) (r_l := r_l) (r_H := r_H) (r_x := r_x) (h_T := h_T) (h_L := h_L) (h_P := h_P) (r_C := r_C) (r_d := r_d) (r_F := r_F) (r_r := r_r) (r_n := r_n) hq1) (gV mlX9_197 mvX9_needTree izX9) rfl rfl rfl hdX9_needTree ⟨Nat.le_of_ble_eq_true rfl, Nat.le_of_ble_eq_true rfl⟩ rfl 0 rfl rfl rfl rfl (Nat.le_of_ble_eq_true rfl) ⟨Nat.zero_le _, Nat.zero_le _⟩ [0, 1, 2, 3, 4, 5] rfl rfl rfl ([nX9 cI cZ cQ h_t (h_w 0) (h_b 0) r_l r_H r_x (h_T 0) r_C r_d r_F r_r r_n p1_t, nX8 cI cZ cQ h_w u_w, nX8 cI cZ cQ h_b p1_b, nX6 cI cZ cQ h_T (h_w 0) (h_L 0) (h_P 0) p1_T, nX4 cI cZ cQ h_L (h_w 0) p1_L, nX4 cI cZ cQ h_P (h_w 0) p1_P]) rfl dX9_meanLeafDepth_1 ?_
  refine r_ald_n O 5 rfl 0 rfl dX9_meanLeafDepth_4 ?_
  refine r_get (ref := RX9) (C := RX9) (T := TX9) (N := 13) O 8 rfl inBX9 0 5 rfl rfl rfl (by decide) flX9_41 rfl rfl dX9_meanLeafDepth_5 ?_
  obtain ⟨x8, hq8, hf⟩ := qb1_some hf
  refine k_VI O 11 rfl (zX6_leafDepthSum (l := xl X) (D := xD X) (cI := cI) (cZ := cZ) (cQ := cQ) (h_t := h_T) (r_w := (h_w 0)) (r_L := (h_L 0)) (r_P := (h_P 0)) hq8) (gV mlX9_249 mvX6_leafDepthSum izX6) rfl rfl rfl hdX6_leafDepthSum ⟨Nat.le_of_ble_eq_true rfl, Nat.le_of_ble_eq_true rfl⟩ rfl 3 rfl rfl rfl rfl (Nat.le_of_ble_eq_true rfl) ⟨Nat.zero_le _, Nat.zero_le _⟩ [3] rfl rfl rfl ([nX9 cI cZ cQ h_t (h_w 0) (h_b 0) r_l r_H r_x (h_T 0) r_C r_d r_F r_r r_n p1_t, nX8 cI cZ cQ h_w u_w, nX8 cI cZ cQ h_b p1_b, nX6 cI cZ cQ h_T (h_w 0) (h_L 0) (h_P 0) p1_T, nX4 cI cZ cQ h_L (h_w 0) p1_L, nX4 cI cZ cQ h_P (h_w 0) p1_P]) rfl dX9_meanLeafDepth_8 ?_
  refine r_ald_n O 12 rfl 0 rfl dX9_meanLeafDepth_11 ?_
  refine r_get (ref := RX9) (C := RX9) (T := TX9) (N := 13) O 15 rfl inBX9 0 5 rfl rfl rfl (by decide) flX9_41 rfl rfl dX9_meanLeafDepth_12 ?_
  obtain ⟨x15, hq15, hf⟩ := qb1_some hf
  refine k_VI O 18 rfl (zX6_leafTotal (l := xl X) (D := xD X) (cI := cI) (cZ := cZ) (cQ := cQ) (h_t := h_T) (r_w := (h_w 0)) (r_L := (h_L 0)) (r_P := (h_P 0)) hq15) (gV mlX9_252 mvX6_leafTotal izX6) rfl rfl rfl hdX6_leafTotal ⟨Nat.le_of_ble_eq_true rfl, Nat.le_of_ble_eq_true rfl⟩ rfl 3 rfl rfl rfl rfl (Nat.le_of_ble_eq_true rfl) ⟨Nat.zero_le _, Nat.zero_le _⟩ [3] rfl rfl rfl ([nX9 cI cZ cQ h_t (h_w 0) (h_b 0) r_l r_H r_x (h_T 0) r_C r_d r_F r_r r_n p1_t, nX8 cI cZ cQ h_w u_w, nX8 cI cZ cQ h_b p1_b, nX6 cI cZ cQ h_T (h_w 0) (h_L 0) (h_P 0) p1_T, nX4 cI cZ cQ h_L (h_w 0) p1_L, nX4 cI cZ cQ h_P (h_w 0) p1_P]) rfl dX9_meanLeafDepth_15 ?_
  obtain ⟨x18, hq18, hf⟩ := qb1_some hf
  refine k_SD O 21 rfl (zX9_quotient (l := xl X) (D := xD X) (cI := cI) (cZ := cZ) (cQ := cQ) hq18) (gS mlX9_235 mvX9_quotient izX9) rfl rfl rfl hdX9_quotient ⟨Nat.le_of_ble_eq_true rfl, Nat.le_of_ble_eq_true rfl⟩ rfl rfl (Nat.le_of_ble_eq_true rfl) ⟨Nat.zero_le _, Nat.zero_le _⟩ [] rfl rfl rfl ([nX9 cI cZ cQ h_t (h_w 0) (h_b 0) r_l r_H r_x (h_T 0) r_C r_d r_F r_r r_n p1_t, nX8 cI cZ cQ h_w u_w, nX8 cI cZ cQ h_b p1_b, nX6 cI cZ cQ h_T (h_w 0) (h_L 0) (h_P 0) p1_T, nX4 cI cZ cQ h_L (h_w 0) p1_L, nX4 cI cZ cQ h_P (h_w 0) p1_P]) rfl dX9_meanLeafDepth_18 ?_
  obtain ⟨g0, g1, g2, g3, g4, g5⟩ := qe6 hf
  exact r_dret2 O E g0 (by rw [g1, g2, g3, g4, g5]) dX9_meanLeafDepth_21
-- X9_buildCount
def rmX9_buildCount : Room := { frames := 0, cells := 0, slots := 0, locals := 0 }
set_option maxHeartbeats 4000000 in
set_option maxRecDepth 100000 in
theorem zX9_buildCount {l : Launch} {D : va_G} {cI cZ cQ : ClassId} {h_t : Nat → Nat} {r_w r_b r_l r_H r_x r_T r_C r_d r_F r_r r_n : Nat} {u_t : Pk} {r0 : Int32} (hf : fX9_buildCount u_t = some r0) : MI l yX9_buildCount wsX9_buildCount rmX9_buildCount D (TY cI cZ cQ) [.ref (h_t 0)] [nX9 cI cZ cQ h_t r_w r_b r_l r_H r_x r_T r_C r_d r_F r_r r_n u_t] r0 [nX9 cI cZ cQ h_t r_w r_b r_l r_H r_x r_T r_C r_d r_F r_r r_n u_t] := by
  refine MI.of (own := RX9) (by decide +kernel) rfl rfl (Nat.le_of_ble_eq_true rfl) (lv0 := [(0, .ref (h_t 0))]) rfl ?_
  intro X O E
  unfold fX9_buildCount at hf
  refine r_ald_n O 1 rfl 0 rfl dX9_buildCount_0 ?_
  refine r_get (ref := RX9) (C := RX9) (T := TX9) (N := 13) O 4 rfl inBX9 0 11 rfl rfl rfl (by decide) flX9_78 rfl rfl dX9_buildCount_1 ?_
  obtain g0 := qe1 hf
  exact r_iret2 O E g0 rfl dX9_buildCount_4
-- X9_drawCount
def rmX9_drawCount : Room := { frames := 41, cells := 0, slots := 0, locals := 1071 }
set_option maxHeartbeats 4000000 in
set_option maxRecDepth 100000 in
theorem zX9_drawCount {l : Launch} {D : va_G} {cI cZ cQ : ClassId} {h_t h_w h_b h_T h_L h_P h_d : Nat → Nat} {r_l r_H r_x r_C r_F r_r r_n : Nat} {u_w u_t u_b u_T u_L u_P u_d : Pk} {a1 : Int32} {a2 : Int32} {r0 : Int32} {v_t v_b v_T v_L v_P v_d : Pk} (hf : fX9_drawCount u_w u_t u_b u_T u_L u_P u_d a1 a2 = some (r0, v_t, v_b, v_T, v_L, v_P, v_d)) : MI l yX9_drawCount wsX9_drawCount rmX9_drawCount D (TY cI cZ cQ) [.ref (h_t 0), .int a1, .int a2] [nX9 cI cZ cQ h_t (h_w 0) (h_b 0) r_l r_H r_x (h_T 0) r_C (h_d 0) r_F r_r r_n u_t, nX8 cI cZ cQ h_w u_w, nX8 cI cZ cQ h_b u_b, nX6 cI cZ cQ h_T (h_w 0) (h_L 0) (h_P 0) u_T, nX4 cI cZ cQ h_L (h_w 0) u_L, nX4 cI cZ cQ h_P (h_w 0) u_P, nX0 cI cZ cQ h_d (h_w 0) (h_T 0) u_d] r0 [nX9 cI cZ cQ h_t (h_w 0) (h_b 0) r_l r_H r_x (h_T 0) r_C (h_d 0) r_F r_r r_n v_t, nX8 cI cZ cQ h_w u_w, nX8 cI cZ cQ h_b v_b, nX6 cI cZ cQ h_T (h_w 0) (h_L 0) (h_P 0) v_T, nX4 cI cZ cQ h_L (h_w 0) v_L, nX4 cI cZ cQ h_P (h_w 0) v_P, nX0 cI cZ cQ h_d (h_w 0) (h_T 0) v_d] := by
  refine MI.of (own := RX9) (by decide +kernel) rfl rfl (Nat.le_of_ble_eq_true rfl) (lv0 := [(0, .ref (h_t 0)), (1, .int a1), (2, .int a2)]) rfl ?_
  intro X O E
  unfold fX9_drawCount at hf
  refine r_ild_n O 1 rfl 1 rfl dX9_drawCount_0 ?_
  refine r_ild_n O 2 rfl 2 rfl dX9_drawCount_1 ?_
  obtain ⟨x2, hq2, hf⟩ := qb1_some hf
  refine k_SZ O 5 rfl (zX9_isBadPoint (l := xl X) (D := xD X) (cI := cI) (cZ := cZ) (cQ := cQ) hq2) (gS mlX9_86 mvX9_isBadPoint izX9) rfl rfl rfl hdX9_isBadPoint ⟨Nat.le_of_ble_eq_true rfl, Nat.le_of_ble_eq_true rfl⟩ rfl rfl (Nat.le_of_ble_eq_true rfl) ⟨Nat.zero_le _, Nat.zero_le _⟩ [] rfl rfl rfl ([nX9 cI cZ cQ h_t (h_w 0) (h_b 0) r_l r_H r_x (h_T 0) r_C (h_d 0) r_F r_r r_n u_t, nX8 cI cZ cQ h_w u_w, nX8 cI cZ cQ h_b u_b, nX6 cI cZ cQ h_T (h_w 0) (h_L 0) (h_P 0) u_T, nX4 cI cZ cQ h_L (h_w 0) u_L, nX4 cI cZ cQ h_P (h_w 0) u_P, nX0 cI cZ cQ h_d (h_w 0) (h_T 0) u_d]) rfl dX9_drawCount_2 (fun hz2 => ?_)
  refine r_if_eq O 8 rfl 11 dX9_drawCount_5 (by decide) (fun hc5 => ?_) (fun hc5 => ?_)
  · rw [if_pos hc5] at hf
    refine r_ald_n O 12 rfl 0 rfl dX9_drawCount_11 ?_
    obtain ⟨p12_t, p12_b, p12_T, p12_L, p12_P, hq12, hf⟩ := qb5_some hf
    refine k_VV O 15 rfl (zX9_needTree (l := xl X) (D := xD X) (cI := cI) (cZ := cZ) (cQ := cQ) (h_t := h_t) (h_w := h_w) (h_b := h_b) (r_l := r_l) (r_H := r_H) (r_x := r_x) (h_T := h_T) (h_L := h_L) (h_P := h_P) (r_C := r_C) (r_d := (h_d 0)) (r_F := r_F) (r_r := r_r) (r_n := r_n) hq12) (gV mlX9_197 mvX9_needTree izX9) rfl rfl rfl hdX9_needTree ⟨Nat.le_of_ble_eq_true rfl, Nat.le_of_ble_eq_true rfl⟩ rfl 0 rfl rfl rfl rfl (Nat.le_of_ble_eq_true rfl) ⟨Nat.zero_le _, Nat.zero_le _⟩ [0, 1, 2, 3, 4, 5] rfl rfl rfl ([nX9 cI cZ cQ h_t (h_w 0) (h_b 0) r_l r_H r_x (h_T 0) r_C (h_d 0) r_F r_r r_n p12_t, nX8 cI cZ cQ h_w u_w, nX8 cI cZ cQ h_b p12_b, nX6 cI cZ cQ h_T (h_w 0) (h_L 0) (h_P 0) p12_T, nX4 cI cZ cQ h_L (h_w 0) p12_L, nX4 cI cZ cQ h_P (h_w 0) p12_P, nX0 cI cZ cQ h_d (h_w 0) (h_T 0) u_d]) rfl dX9_drawCount_12 ?_
    refine r_ald_n O 16 rfl 0 rfl dX9_drawCount_15 ?_
    refine r_get (ref := RX9) (C := RX9) (T := TX9) (N := 13) O 19 rfl inBX9 0 7 rfl rfl rfl (by decide) flX9_53 rfl rfl dX9_drawCount_16 ?_
    refine r_ild_n O 20 rfl 1 rfl dX9_drawCount_19 ?_
    refine r_ild_n O 21 rfl 2 rfl dX9_drawCount_20 ?_
    obtain ⟨p21_d, hq21, hf⟩ := qb1_some hf
    refine k_VV O 24 rfl (zX0_arrange (l := xl X) (D := xD X) (cI := cI) (cZ := cZ) (cQ := cQ) (h_t := h_d) (h_w := h_w) (h_T := h_T) (r_L := (h_L 0)) (h_P := h_P) hq21) (gV mlX9_255 mvX0_arrange izX0) rfl rfl rfl hdX0_arrange ⟨Nat.le_of_ble_eq_true rfl, Nat.le_of_ble_eq_true rfl⟩ rfl 6 rfl rfl rfl rfl (Nat.le_of_ble_eq_true rfl) ⟨Nat.zero_le _, Nat.zero_le _⟩ [6, 1, 3, 5] rfl rfl rfl ([nX9 cI cZ cQ h_t (h_w 0) (h_b 0) r_l r_H r_x (h_T 0) r_C (h_d 0) r_F r_r r_n p12_t, nX8 cI cZ cQ h_w u_w, nX8 cI cZ cQ h_b p12_b, nX6 cI cZ cQ h_T (h_w 0) (h_L 0) (h_P 0) p12_T, nX4 cI cZ cQ h_L (h_w 0) p12_L, nX4 cI cZ cQ h_P (h_w 0) p12_P, nX0 cI cZ cQ h_d (h_w 0) (h_T 0) p21_d]) rfl dX9_drawCount_21 ?_
    refine r_ald_n O 25 rfl 0 rfl dX9_drawCount_24 ?_
    refine r_get (ref := RX9) (C := RX9) (T := TX9) (N := 13) O 28 rfl inBX9 0 7 rfl rfl rfl (by decide) flX9_53 rfl rfl dX9_drawCount_25 ?_
    obtain ⟨x28, hq28, hf⟩ := qb1_some hf
    refine k_VI O 31 rfl (zX0_size (l := xl X) (D := xD X) (cI := cI) (cZ := cZ) (cQ := cQ) (h_t := h_d) (r_w := (h_w 0)) (r_T := (h_T 0)) hq28) (gV mlX9_258 mvX0_size izX0) rfl rfl rfl hdX0_size ⟨Nat.le_of_ble_eq_true rfl, Nat.le_of_ble_eq_true rfl⟩ rfl 6 rfl rfl rfl rfl (Nat.le_of_ble_eq_true rfl) ⟨Nat.zero_le _, Nat.zero_le _⟩ [6] rfl rfl rfl ([nX9 cI cZ cQ h_t (h_w 0) (h_b 0) r_l r_H r_x (h_T 0) r_C (h_d 0) r_F r_r r_n p12_t, nX8 cI cZ cQ h_w u_w, nX8 cI cZ cQ h_b p12_b, nX6 cI cZ cQ h_T (h_w 0) (h_L 0) (h_P 0) p12_T, nX4 cI cZ cQ h_L (h_w 0) p12_L, nX4 cI cZ cQ h_P (h_w 0) p12_P, nX0 cI cZ cQ h_d (h_w 0) (h_T 0) p21_d]) rfl dX9_drawCount_28 ?_
    obtain ⟨g0, g1, g2, g3, g4, g5, g6⟩ := qe7 hf
    exact r_iret2 O E g0 (by rw [g1, g2, g3, g4, g5, g6]) dX9_drawCount_31
  · rw [if_neg hc5] at hf
    refine r_bi O 10 rfl (-2) (by decide) dX9_drawCount_8 ?_
    obtain ⟨g0, g1, g2, g3, g4, g5, g6⟩ := qe7 hf
    exact r_iret2 O E g0 (by rw [g1, g2, g3, g4, g5, g6]) dX9_drawCount_10
-- X9_drawPiece
def rmX9_drawPiece : Room := { frames := 41, cells := 0, slots := 0, locals := 1071 }
set_option maxHeartbeats 4000000 in
set_option maxRecDepth 100000 in
theorem zX9_drawPiece {l : Launch} {D : va_G} {cI cZ cQ : ClassId} {h_t h_w h_b h_T h_L h_P h_d : Nat → Nat} {r_l r_H r_x r_C r_F r_r r_n : Nat} {u_w u_t u_b u_T u_L u_P u_d : Pk} {a1 : Int32} {a2 : Int32} {a3 : Int32} {r0 : Int32} {v_t v_b v_T v_L v_P v_d : Pk} (hf : fX9_drawPiece u_w u_t u_b u_T u_L u_P u_d a1 a2 a3 = some (r0, v_t, v_b, v_T, v_L, v_P, v_d)) : MI l yX9_drawPiece wsX9_drawPiece rmX9_drawPiece D (TY cI cZ cQ) [.ref (h_t 0), .int a1, .int a2, .int a3] [nX9 cI cZ cQ h_t (h_w 0) (h_b 0) r_l r_H r_x (h_T 0) r_C (h_d 0) r_F r_r r_n u_t, nX8 cI cZ cQ h_w u_w, nX8 cI cZ cQ h_b u_b, nX6 cI cZ cQ h_T (h_w 0) (h_L 0) (h_P 0) u_T, nX4 cI cZ cQ h_L (h_w 0) u_L, nX4 cI cZ cQ h_P (h_w 0) u_P, nX0 cI cZ cQ h_d (h_w 0) (h_T 0) u_d] r0 [nX9 cI cZ cQ h_t (h_w 0) (h_b 0) r_l r_H r_x (h_T 0) r_C (h_d 0) r_F r_r r_n v_t, nX8 cI cZ cQ h_w u_w, nX8 cI cZ cQ h_b v_b, nX6 cI cZ cQ h_T (h_w 0) (h_L 0) (h_P 0) v_T, nX4 cI cZ cQ h_L (h_w 0) v_L, nX4 cI cZ cQ h_P (h_w 0) v_P, nX0 cI cZ cQ h_d (h_w 0) (h_T 0) v_d] := by
  refine MI.of (own := RX9) (by decide +kernel) rfl rfl (Nat.le_of_ble_eq_true rfl) (lv0 := [(0, .ref (h_t 0)), (1, .int a1), (2, .int a2), (3, .int a3)]) rfl ?_
  intro X O E
  unfold fX9_drawPiece at hf
  refine r_ild_n O 1 rfl 1 rfl dX9_drawPiece_0 ?_
  refine r_ild_n O 2 rfl 2 rfl dX9_drawPiece_1 ?_
  obtain ⟨x2, hq2, hf⟩ := qb1_some hf
  refine k_SZ O 5 rfl (zX9_isBadPoint (l := xl X) (D := xD X) (cI := cI) (cZ := cZ) (cQ := cQ) hq2) (gS mlX9_86 mvX9_isBadPoint izX9) rfl rfl rfl hdX9_isBadPoint ⟨Nat.le_of_ble_eq_true rfl, Nat.le_of_ble_eq_true rfl⟩ rfl rfl (Nat.le_of_ble_eq_true rfl) ⟨Nat.zero_le _, Nat.zero_le _⟩ [] rfl rfl rfl ([nX9 cI cZ cQ h_t (h_w 0) (h_b 0) r_l r_H r_x (h_T 0) r_C (h_d 0) r_F r_r r_n u_t, nX8 cI cZ cQ h_w u_w, nX8 cI cZ cQ h_b u_b, nX6 cI cZ cQ h_T (h_w 0) (h_L 0) (h_P 0) u_T, nX4 cI cZ cQ h_L (h_w 0) u_L, nX4 cI cZ cQ h_P (h_w 0) u_P, nX0 cI cZ cQ h_d (h_w 0) (h_T 0) u_d]) rfl dX9_drawPiece_2 (fun hz2 => ?_)
  refine r_if_ne O 8 rfl 12 dX9_drawPiece_5 (by decide) (fun hc5 => ?_) (fun hc5 => ?_)
  · rw [if_neg hc5] at hf
    refine r_bi O 14 rfl (-2) (by decide) dX9_drawPiece_12 ?_
    obtain ⟨g0, g1, g2, g3, g4, g5, g6⟩ := qe7 hf
    exact r_iret2 O E g0 (by rw [g1, g2, g3, g4, g5, g6]) dX9_drawPiece_14
  · rw [if_pos hc5] at hf
    refine r_ild_n O 9 rfl 3 rfl dX9_drawPiece_8 ?_
    refine r_if_ge O 12 rfl 15 dX9_drawPiece_9 (by decide) (fun hc9 => ?_) (fun hc9 => ?_)
    · rw [if_pos hc9] at hf
      refine r_ald_n O 16 rfl 0 rfl dX9_drawPiece_15 ?_
      obtain ⟨p16_t, p16_b, p16_T, p16_L, p16_P, hq16, hf⟩ := qb5_some hf
      refine k_VV O 19 rfl (zX9_needTree (l := xl X) (D := xD X) (cI := cI) (cZ := cZ) (cQ := cQ) (h_t := h_t) (h_w := h_w) (h_b := h_b) (r_l := r_l) (r_H := r_H) (r_x := r_x) (h_T := h_T) (h_L := h_L) (h_P := h_P) (r_C := r_C) (r_d := (h_d 0)) (r_F := r_F) (r_r := r_r) (r_n := r_n) hq16) (gV mlX9_197 mvX9_needTree izX9) rfl rfl rfl hdX9_needTree ⟨Nat.le_of_ble_eq_true rfl, Nat.le_of_ble_eq_true rfl⟩ rfl 0 rfl rfl rfl rfl (Nat.le_of_ble_eq_true rfl) ⟨Nat.zero_le _, Nat.zero_le _⟩ [0, 1, 2, 3, 4, 5] rfl rfl rfl ([nX9 cI cZ cQ h_t (h_w 0) (h_b 0) r_l r_H r_x (h_T 0) r_C (h_d 0) r_F r_r r_n p16_t, nX8 cI cZ cQ h_w u_w, nX8 cI cZ cQ h_b p16_b, nX6 cI cZ cQ h_T (h_w 0) (h_L 0) (h_P 0) p16_T, nX4 cI cZ cQ h_L (h_w 0) p16_L, nX4 cI cZ cQ h_P (h_w 0) p16_P, nX0 cI cZ cQ h_d (h_w 0) (h_T 0) u_d]) rfl dX9_drawPiece_16 ?_
      refine r_ald_n O 20 rfl 0 rfl dX9_drawPiece_19 ?_
      refine r_get (ref := RX9) (C := RX9) (T := TX9) (N := 13) O 23 rfl inBX9 0 7 rfl rfl rfl (by decide) flX9_53 rfl rfl dX9_drawPiece_20 ?_
      refine r_ild_n O 24 rfl 1 rfl dX9_drawPiece_23 ?_
      refine r_ild_n O 25 rfl 2 rfl dX9_drawPiece_24 ?_
      obtain ⟨p25_d, hq25, hf⟩ := qb1_some hf
      refine k_VV O 28 rfl (zX0_arrange (l := xl X) (D := xD X) (cI := cI) (cZ := cZ) (cQ := cQ) (h_t := h_d) (h_w := h_w) (h_T := h_T) (r_L := (h_L 0)) (h_P := h_P) hq25) (gV mlX9_255 mvX0_arrange izX0) rfl rfl rfl hdX0_arrange ⟨Nat.le_of_ble_eq_true rfl, Nat.le_of_ble_eq_true rfl⟩ rfl 6 rfl rfl rfl rfl (Nat.le_of_ble_eq_true rfl) ⟨Nat.zero_le _, Nat.zero_le _⟩ [6, 1, 3, 5] rfl rfl rfl ([nX9 cI cZ cQ h_t (h_w 0) (h_b 0) r_l r_H r_x (h_T 0) r_C (h_d 0) r_F r_r r_n p16_t, nX8 cI cZ cQ h_w u_w, nX8 cI cZ cQ h_b p16_b, nX6 cI cZ cQ h_T (h_w 0) (h_L 0) (h_P 0) p16_T, nX4 cI cZ cQ h_L (h_w 0) p16_L, nX4 cI cZ cQ h_P (h_w 0) p16_P, nX0 cI cZ cQ h_d (h_w 0) (h_T 0) p25_d]) rfl dX9_drawPiece_25 ?_
      refine r_ild_n O 29 rfl 3 rfl dX9_drawPiece_28 ?_
      refine r_ald_n O 30 rfl 0 rfl dX9_drawPiece_29 ?_
      refine r_get (ref := RX9) (C := RX9) (T := TX9) (N := 13) O 33 rfl inBX9 0 7 rfl rfl rfl (by decide) flX9_53 rfl rfl dX9_drawPiece_30 ?_
      obtain ⟨x33, hq33, hf⟩ := qb1_some hf
      refine k_VI O 36 rfl (zX0_size (l := xl X) (D := xD X) (cI := cI) (cZ := cZ) (cQ := cQ) (h_t := h_d) (r_w := (h_w 0)) (r_T := (h_T 0)) hq33) (gV mlX9_258 mvX0_size izX0) rfl rfl rfl hdX0_size ⟨Nat.le_of_ble_eq_true rfl, Nat.le_of_ble_eq_true rfl⟩ rfl 6 rfl rfl rfl rfl (Nat.le_of_ble_eq_true rfl) ⟨Nat.zero_le _, Nat.zero_le _⟩ [6] rfl rfl rfl ([nX9 cI cZ cQ h_t (h_w 0) (h_b 0) r_l r_H r_x (h_T 0) r_C (h_d 0) r_F r_r r_n p16_t, nX8 cI cZ cQ h_w u_w, nX8 cI cZ cQ h_b p16_b, nX6 cI cZ cQ h_T (h_w 0) (h_L 0) (h_P 0) p16_T, nX4 cI cZ cQ h_L (h_w 0) p16_L, nX4 cI cZ cQ h_P (h_w 0) p16_P, nX0 cI cZ cQ h_d (h_w 0) (h_T 0) p25_d]) rfl dX9_drawPiece_33 ?_
      refine r_icmp_ge O 39 rfl 50 dX9_drawPiece_36 (by decide) (fun hc36 => ?_) (fun hc36 => ?_)
      · rw [if_pos hc36] at hf
        refine r_bi O 52 rfl (-8) (by decide) dX9_drawPiece_50 ?_
        obtain ⟨g0, g1, g2, g3, g4, g5, g6⟩ := qe7 hf
        exact r_iret2 O E g0 (by rw [g1, g2, g3, g4, g5, g6]) dX9_drawPiece_52
      · rw [if_neg hc36] at hf
        refine r_ald_n O 40 rfl 0 rfl dX9_drawPiece_39 ?_
        refine r_get (ref := RX9) (C := RX9) (T := TX9) (N := 13) O 43 rfl inBX9 0 7 rfl rfl rfl (by decide) flX9_53 rfl rfl dX9_drawPiece_40 ?_
        refine r_ild_n O 44 rfl 3 rfl dX9_drawPiece_43 ?_
        obtain ⟨x44, hq44, hf⟩ := qb1_some hf
        refine k_VI O 47 rfl (zX0_pieceAt (l := xl X) (D := xD X) (cI := cI) (cZ := cZ) (cQ := cQ) (h_t := h_d) (r_w := (h_w 0)) (r_T := (h_T 0)) hq44) (gV mlX9_259 mvX0_pieceAt izX0) rfl rfl rfl hdX0_pieceAt ⟨Nat.le_of_ble_eq_true rfl, Nat.le_of_ble_eq_true rfl⟩ rfl 6 rfl rfl rfl rfl (Nat.le_of_ble_eq_true rfl) ⟨Nat.zero_le _, Nat.zero_le _⟩ [6] rfl rfl rfl ([nX9 cI cZ cQ h_t (h_w 0) (h_b 0) r_l r_H r_x (h_T 0) r_C (h_d 0) r_F r_r r_n p16_t, nX8 cI cZ cQ h_w u_w, nX8 cI cZ cQ h_b p16_b, nX6 cI cZ cQ h_T (h_w 0) (h_L 0) (h_P 0) p16_T, nX4 cI cZ cQ h_L (h_w 0) p16_L, nX4 cI cZ cQ h_P (h_w 0) p16_P, nX0 cI cZ cQ h_d (h_w 0) (h_T 0) p25_d]) rfl dX9_drawPiece_44 ?_
        refine r_goto O 52 dX9_drawPiece_47 (by decide) ?_
        obtain ⟨g0, g1, g2, g3, g4, g5, g6⟩ := qe7 hf
        exact r_iret2 O E g0 (by rw [g1, g2, g3, g4, g5, g6]) dX9_drawPiece_52
    · rw [if_neg hc9] at hf
      refine r_bi O 14 rfl (-2) (by decide) dX9_drawPiece_12 ?_
      obtain ⟨g0, g1, g2, g3, g4, g5, g6⟩ := qe7 hf
      exact r_iret2 O E g0 (by rw [g1, g2, g3, g4, g5, g6]) dX9_drawPiece_14
-- X9_covers
def rmX9_covers : Room := { frames := 3, cells := 0, slots := 0, locals := 65 }
set_option maxHeartbeats 4000000 in
set_option maxRecDepth 100000 in
theorem zX9_covers {l : Launch} {D : va_G} {cI cZ cQ : ClassId} {h_t h_w h_T h_P h_r : Nat → Nat} {r_b r_l r_H r_x r_L r_C r_d r_F r_n : Nat} {u_t u_w u_T u_P u_r : Pk} {a1 : Int32} {r0 : Int32} {v_r : Pk} (hf : fX9_covers u_t u_w u_T u_P u_r a1 = some (r0, v_r)) : MZ l yX9_covers wsX9_covers rmX9_covers D (TY cI cZ cQ) [.ref (h_t 0), .int a1] [nX9 cI cZ cQ h_t (h_w 0) r_b r_l r_H r_x (h_T 0) r_C r_d r_F (h_r 0) r_n u_t, nX8 cI cZ cQ h_w u_w, nX6 cI cZ cQ h_T (h_w 0) r_L (h_P 0) u_T, nX4 cI cZ cQ h_P (h_w 0) u_P, nX5 cI cZ cQ h_r (h_w 0) u_r] r0 [nX9 cI cZ cQ h_t (h_w 0) r_b r_l r_H r_x (h_T 0) r_C r_d r_F (h_r 0) r_n u_t, nX8 cI cZ cQ h_w u_w, nX6 cI cZ cQ h_T (h_w 0) r_L (h_P 0) u_T, nX4 cI cZ cQ h_P (h_w 0) u_P, nX5 cI cZ cQ h_r (h_w 0) v_r] := by
  refine MZ.of (own := RX9) (by decide +kernel) rfl rfl (Nat.le_of_ble_eq_true rfl) (lv0 := [(0, .ref (h_t 0)), (1, .int a1)]) rfl ?_
  intro X O E
  unfold fX9_covers at hf
  refine r_ald_n O 1 rfl 0 rfl dX9_covers_0 ?_
  refine r_get (ref := RX9) (C := RX9) (T := TX9) (N := 13) O 4 rfl inBX9 0 9 rfl rfl rfl (by decide) flX9_67 rfl rfl dX9_covers_1 ?_
  refine r_ald_n O 5 rfl 0 rfl dX9_covers_4 ?_
  refine r_get (ref := RX9) (C := RX9) (T := TX9) (N := 13) O 8 rfl inBX9 0 5 rfl rfl rfl (by decide) flX9_41 rfl rfl dX9_covers_5 ?_
  refine r_ild_n O 9 rfl 1 rfl dX9_covers_8 ?_
  obtain ⟨x9, hq9, hf⟩ := qb1_some hf
  refine k_VI O 12 rfl (zX6_wallOfPiece (l := xl X) (D := xD X) (cI := cI) (cZ := cZ) (cQ := cQ) (h_t := h_T) (r_w := (h_w 0)) (r_L := r_L) (h_P := h_P) hq9) (gV mlX9_224 mvX6_wallOfPiece izX6) rfl rfl rfl hdX6_wallOfPiece ⟨Nat.le_of_ble_eq_true rfl, Nat.le_of_ble_eq_true rfl⟩ rfl 2 rfl rfl rfl rfl (Nat.le_of_ble_eq_true rfl) ⟨Nat.zero_le _, Nat.zero_le _⟩ [2, 3] rfl rfl rfl ([nX9 cI cZ cQ h_t (h_w 0) r_b r_l r_H r_x (h_T 0) r_C r_d r_F (h_r 0) r_n u_t, nX8 cI cZ cQ h_w u_w, nX6 cI cZ cQ h_T (h_w 0) r_L (h_P 0) u_T, nX4 cI cZ cQ h_P (h_w 0) u_P, nX5 cI cZ cQ h_r (h_w 0) u_r]) rfl dX9_covers_9 ?_
  obtain ⟨x12, p12_r, hq12, hf⟩ := qb2_some hf
  refine k_VZ O 15 rfl (zX5_hits (l := xl X) (D := xD X) (cI := cI) (cZ := cZ) (cQ := cQ) (h_t := h_r) (h_w := h_w) hq12) (gV mlX9_375 mvX5_hits izX5) rfl rfl rfl hdX5_hits ⟨Nat.le_of_ble_eq_true rfl, Nat.le_of_ble_eq_true rfl⟩ rfl 4 rfl rfl rfl rfl (Nat.le_of_ble_eq_true rfl) ⟨Nat.zero_le _, Nat.zero_le _⟩ [4, 1] rfl rfl rfl ([nX9 cI cZ cQ h_t (h_w 0) r_b r_l r_H r_x (h_T 0) r_C r_d r_F (h_r 0) r_n u_t, nX8 cI cZ cQ h_w u_w, nX6 cI cZ cQ h_T (h_w 0) r_L (h_P 0) u_T, nX4 cI cZ cQ h_P (h_w 0) u_P, nX5 cI cZ cQ h_r (h_w 0) p12_r]) rfl dX9_covers_12 (fun hz12 => ?_)
  refine r_if_eq O 18 rfl 78 dX9_covers_15 (by decide) (fun hc15 => ?_) (fun hc15 => ?_)
  · rw [if_pos hc15] at hf
    refine r_ic O 79 rfl 0 (by decide) dX9_covers_78 ?_
    obtain ⟨g0, g1⟩ := qe2 hf
    exact r_zret2 O E g0 (by rw [g1]) rfl dX9_covers_79
  · rw [if_neg hc15] at hf
    refine r_ald_n O 19 rfl 0 rfl dX9_covers_18 ?_
    refine r_get (ref := RX9) (C := RX9) (T := TX9) (N := 13) O 22 rfl inBX9 0 9 rfl rfl rfl (by decide) flX9_67 rfl rfl dX9_covers_19 ?_
    refine r_ald_n O 23 rfl 0 rfl dX9_covers_22 ?_
    refine r_get (ref := RX9) (C := RX9) (T := TX9) (N := 13) O 26 rfl inBX9 0 5 rfl rfl rfl (by decide) flX9_41 rfl rfl dX9_covers_23 ?_
    refine r_ild_n O 27 rfl 1 rfl dX9_covers_26 ?_
    refine r_ic O 28 rfl 0 (by decide) dX9_covers_27 ?_
    obtain ⟨x28, hq28, hf⟩ := qb1_some hf
    refine k_VI O 31 rfl (zX6_boundOfPiece (l := xl X) (D := xD X) (cI := cI) (cZ := cZ) (cQ := cQ) (h_t := h_T) (r_w := (h_w 0)) (r_L := r_L) (h_P := h_P) hq28) (gV mlX9_230 mvX6_boundOfPiece izX6) rfl rfl rfl hdX6_boundOfPiece ⟨Nat.le_of_ble_eq_true rfl, Nat.le_of_ble_eq_true rfl⟩ rfl 2 rfl rfl rfl rfl (Nat.le_of_ble_eq_true rfl) ⟨Nat.zero_le _, Nat.zero_le _⟩ [2, 3] rfl rfl rfl ([nX9 cI cZ cQ h_t (h_w 0) r_b r_l r_H r_x (h_T 0) r_C r_d r_F (h_r 0) r_n u_t, nX8 cI cZ cQ h_w u_w, nX6 cI cZ cQ h_T (h_w 0) r_L (h_P 0) u_T, nX4 cI cZ cQ h_P (h_w 0) u_P, nX5 cI cZ cQ h_r (h_w 0) p12_r]) rfl dX9_covers_28 ?_
    refine r_ald_n O 32 rfl 0 rfl dX9_covers_31 ?_
    refine r_get (ref := RX9) (C := RX9) (T := TX9) (N := 13) O 35 rfl inBX9 0 5 rfl rfl rfl (by decide) flX9_41 rfl rfl dX9_covers_32 ?_
    refine r_ild_n O 36 rfl 1 rfl dX9_covers_35 ?_
    refine r_ic O 37 rfl 1 (by decide) dX9_covers_36 ?_
    obtain ⟨x37, hq37, hf⟩ := qb1_some hf
    refine k_VI O 40 rfl (zX6_boundOfPiece (l := xl X) (D := xD X) (cI := cI) (cZ := cZ) (cQ := cQ) (h_t := h_T) (r_w := (h_w 0)) (r_L := r_L) (h_P := h_P) hq37) (gV mlX9_230 mvX6_boundOfPiece izX6) rfl rfl rfl hdX6_boundOfPiece ⟨Nat.le_of_ble_eq_true rfl, Nat.le_of_ble_eq_true rfl⟩ rfl 2 rfl rfl rfl rfl (Nat.le_of_ble_eq_true rfl) ⟨Nat.zero_le _, Nat.zero_le _⟩ [2, 3] rfl rfl rfl ([nX9 cI cZ cQ h_t (h_w 0) r_b r_l r_H r_x (h_T 0) r_C r_d r_F (h_r 0) r_n u_t, nX8 cI cZ cQ h_w u_w, nX6 cI cZ cQ h_T (h_w 0) r_L (h_P 0) u_T, nX4 cI cZ cQ h_P (h_w 0) u_P, nX5 cI cZ cQ h_r (h_w 0) p12_r]) rfl dX9_covers_37 ?_
    obtain ⟨x40, hq40, hf⟩ := qb1_some hf
    refine k_VZ O 43 rfl (zX5_hitIsAtOrAfter (l := xl X) (D := xD X) (cI := cI) (cZ := cZ) (cQ := cQ) (h_t := h_r) (r_w := (h_w 0)) hq40) (gV mlX9_378 mvX5_hitIsAtOrAfter izX5) rfl rfl rfl hdX5_hitIsAtOrAfter ⟨Nat.le_of_ble_eq_true rfl, Nat.le_of_ble_eq_true rfl⟩ rfl 4 rfl rfl rfl rfl (Nat.le_of_ble_eq_true rfl) ⟨Nat.zero_le _, Nat.zero_le _⟩ [4] rfl rfl rfl ([nX9 cI cZ cQ h_t (h_w 0) r_b r_l r_H r_x (h_T 0) r_C r_d r_F (h_r 0) r_n u_t, nX8 cI cZ cQ h_w u_w, nX6 cI cZ cQ h_T (h_w 0) r_L (h_P 0) u_T, nX4 cI cZ cQ h_P (h_w 0) u_P, nX5 cI cZ cQ h_r (h_w 0) p12_r]) rfl dX9_covers_40 (fun hz40 => ?_)
    refine r_if_eq O 46 rfl 78 dX9_covers_43 (by decide) (fun hc43 => ?_) (fun hc43 => ?_)
    · rw [if_pos hc43] at hf
      refine r_ic O 79 rfl 0 (by decide) dX9_covers_78 ?_
      obtain ⟨g0, g1⟩ := qe2 hf
      exact r_zret2 O E g0 (by rw [g1]) rfl dX9_covers_79
    · rw [if_neg hc43] at hf
      refine r_ald_n O 47 rfl 0 rfl dX9_covers_46 ?_
      refine r_get (ref := RX9) (C := RX9) (T := TX9) (N := 13) O 50 rfl inBX9 0 9 rfl rfl rfl (by decide) flX9_67 rfl rfl dX9_covers_47 ?_
      refine r_ald_n O 51 rfl 0 rfl dX9_covers_50 ?_
      refine r_get (ref := RX9) (C := RX9) (T := TX9) (N := 13) O 54 rfl inBX9 0 5 rfl rfl rfl (by decide) flX9_41 rfl rfl dX9_covers_51 ?_
      refine r_ild_n O 55 rfl 1 rfl dX9_covers_54 ?_
      refine r_ic O 56 rfl 2 (by decide) dX9_covers_55 ?_
      obtain ⟨x56, hq56, hf⟩ := qb1_some hf
      refine k_VI O 59 rfl (zX6_boundOfPiece (l := xl X) (D := xD X) (cI := cI) (cZ := cZ) (cQ := cQ) (h_t := h_T) (r_w := (h_w 0)) (r_L := r_L) (h_P := h_P) hq56) (gV mlX9_230 mvX6_boundOfPiece izX6) rfl rfl rfl hdX6_boundOfPiece ⟨Nat.le_of_ble_eq_true rfl, Nat.le_of_ble_eq_true rfl⟩ rfl 2 rfl rfl rfl rfl (Nat.le_of_ble_eq_true rfl) ⟨Nat.zero_le _, Nat.zero_le _⟩ [2, 3] rfl rfl rfl ([nX9 cI cZ cQ h_t (h_w 0) r_b r_l r_H r_x (h_T 0) r_C r_d r_F (h_r 0) r_n u_t, nX8 cI cZ cQ h_w u_w, nX6 cI cZ cQ h_T (h_w 0) r_L (h_P 0) u_T, nX4 cI cZ cQ h_P (h_w 0) u_P, nX5 cI cZ cQ h_r (h_w 0) p12_r]) rfl dX9_covers_56 ?_
      refine r_ald_n O 60 rfl 0 rfl dX9_covers_59 ?_
      refine r_get (ref := RX9) (C := RX9) (T := TX9) (N := 13) O 63 rfl inBX9 0 5 rfl rfl rfl (by decide) flX9_41 rfl rfl dX9_covers_60 ?_
      refine r_ild_n O 64 rfl 1 rfl dX9_covers_63 ?_
      refine r_ic O 65 rfl 3 (by decide) dX9_covers_64 ?_
      obtain ⟨x65, hq65, hf⟩ := qb1_some hf
      refine k_VI O 68 rfl (zX6_boundOfPiece (l := xl X) (D := xD X) (cI := cI) (cZ := cZ) (cQ := cQ) (h_t := h_T) (r_w := (h_w 0)) (r_L := r_L) (h_P := h_P) hq65) (gV mlX9_230 mvX6_boundOfPiece izX6) rfl rfl rfl hdX6_boundOfPiece ⟨Nat.le_of_ble_eq_true rfl, Nat.le_of_ble_eq_true rfl⟩ rfl 2 rfl rfl rfl rfl (Nat.le_of_ble_eq_true rfl) ⟨Nat.zero_le _, Nat.zero_le _⟩ [2, 3] rfl rfl rfl ([nX9 cI cZ cQ h_t (h_w 0) r_b r_l r_H r_x (h_T 0) r_C r_d r_F (h_r 0) r_n u_t, nX8 cI cZ cQ h_w u_w, nX6 cI cZ cQ h_T (h_w 0) r_L (h_P 0) u_T, nX4 cI cZ cQ h_P (h_w 0) u_P, nX5 cI cZ cQ h_r (h_w 0) p12_r]) rfl dX9_covers_65 ?_
      obtain ⟨x68, hq68, hf⟩ := qb1_some hf
      refine k_VZ O 71 rfl (zX5_hitIsAtOrBefore (l := xl X) (D := xD X) (cI := cI) (cZ := cZ) (cQ := cQ) (h_t := h_r) (r_w := (h_w 0)) hq68) (gV mlX9_381 mvX5_hitIsAtOrBefore izX5) rfl rfl rfl hdX5_hitIsAtOrBefore ⟨Nat.le_of_ble_eq_true rfl, Nat.le_of_ble_eq_true rfl⟩ rfl 4 rfl rfl rfl rfl (Nat.le_of_ble_eq_true rfl) ⟨Nat.zero_le _, Nat.zero_le _⟩ [4] rfl rfl rfl ([nX9 cI cZ cQ h_t (h_w 0) r_b r_l r_H r_x (h_T 0) r_C r_d r_F (h_r 0) r_n u_t, nX8 cI cZ cQ h_w u_w, nX6 cI cZ cQ h_T (h_w 0) r_L (h_P 0) u_T, nX4 cI cZ cQ h_P (h_w 0) u_P, nX5 cI cZ cQ h_r (h_w 0) p12_r]) rfl dX9_covers_68 (fun hz68 => ?_)
      refine r_if_eq O 74 rfl 78 dX9_covers_71 (by decide) (fun hc71 => ?_) (fun hc71 => ?_)
      · rw [if_pos hc71] at hf
        refine r_ic O 79 rfl 0 (by decide) dX9_covers_78 ?_
        obtain ⟨g0, g1⟩ := qe2 hf
        exact r_zret2 O E g0 (by rw [g1]) rfl dX9_covers_79
      · rw [if_neg hc71] at hf
        refine r_ic O 75 rfl 1 (by decide) dX9_covers_74 ?_
        refine r_goto O 79 dX9_covers_75 (by decide) ?_
        obtain ⟨g0, g1⟩ := qe2 hf
        exact r_zret2 O E g0 (by rw [g1]) rfl dX9_covers_79
-- X9_countCovering
def rmX9_countCovering : Room := { frames := 4, cells := 0, slots := 0, locals := 86 }
set_option maxHeartbeats 4000000 in
set_option maxRecDepth 100000 in
theorem zX9_countCovering {l : Launch} {D : va_G} {cI cZ cQ : ClassId} {h_t h_w h_T h_P h_d h_r : Nat → Nat} {r_b r_l r_H r_x r_L r_C r_F r_n : Nat} {u_t u_w u_T u_P u_d u_r : Pk} {r0 : Int32} {v_r : Pk} (hf : fX9_countCovering u_t u_w u_T u_P u_d u_r = some (r0, v_r)) : MI l yX9_countCovering wsX9_countCovering rmX9_countCovering D (TY cI cZ cQ) [.ref (h_t 0)] [nX9 cI cZ cQ h_t (h_w 0) r_b r_l r_H r_x (h_T 0) r_C (h_d 0) r_F (h_r 0) r_n u_t, nX8 cI cZ cQ h_w u_w, nX6 cI cZ cQ h_T (h_w 0) r_L (h_P 0) u_T, nX4 cI cZ cQ h_P (h_w 0) u_P, nX0 cI cZ cQ h_d (h_w 0) (h_T 0) u_d, nX5 cI cZ cQ h_r (h_w 0) u_r] r0 [nX9 cI cZ cQ h_t (h_w 0) r_b r_l r_H r_x (h_T 0) r_C (h_d 0) r_F (h_r 0) r_n u_t, nX8 cI cZ cQ h_w u_w, nX6 cI cZ cQ h_T (h_w 0) r_L (h_P 0) u_T, nX4 cI cZ cQ h_P (h_w 0) u_P, nX0 cI cZ cQ h_d (h_w 0) (h_T 0) u_d, nX5 cI cZ cQ h_r (h_w 0) v_r] := by
  refine MI.of (own := RX9) (by decide +kernel) rfl rfl (Nat.le_of_ble_eq_true rfl) (lv0 := [(0, .ref (h_t 0))]) rfl ?_
  intro X O E
  have B33 : ∀ (rec4 : Pk → Int32 → Int32 → Option (Int32 × Pk)), (∀ (w_r : Pk) (y1 : Int32) (y2 : Int32), rec4 w_r y1 y2 = some (r0, v_r) → BK X 3 0 0 4 ([nX9 cI cZ cQ h_t (h_w 0) r_b r_l r_H r_x (h_T 0) r_C (h_d 0) r_F (h_r 0) r_n u_t, nX8 cI cZ cQ h_w u_w, nX6 cI cZ cQ h_T (h_w 0) r_L (h_P 0) u_T, nX4 cI cZ cQ h_P (h_w 0) u_P, nX0 cI cZ cQ h_d (h_w 0) (h_T 0) u_d, nX5 cI cZ cQ h_r (h_w 0) w_r]) [(0, .ref (h_t 0)), (1, .int y1), (2, .int y2)] []) → ∀ (w_r : Pk) (y1 : Int32) (y2 : Int32), fX9_countCovering_b33 rec4 u_t u_w u_T u_P u_d w_r y1 y2 = some (r0, v_r) → BK X 3 0 0 33 ([nX9 cI cZ cQ h_t (h_w 0) r_b r_l r_H r_x (h_T 0) r_C (h_d 0) r_F (h_r 0) r_n u_t, nX8 cI cZ cQ h_w u_w, nX6 cI cZ cQ h_T (h_w 0) r_L (h_P 0) u_T, nX4 cI cZ cQ h_P (h_w 0) u_P, nX0 cI cZ cQ h_d (h_w 0) (h_T 0) u_d, nX5 cI cZ cQ h_r (h_w 0) w_r]) [(0, .ref (h_t 0)), (1, .int y1), (2, .int y2)] [] := by
    intro rec4 hrec4 w_r y1 y2 hf
    unfold fX9_countCovering_b33 at hf
    obtain ⟨x33, ex33, hf⟩ := qn_some hf
    refine r_iinc O 36 rfl x33 2 rfl (by rw [ex33]; rfl) [(2, .int x33), (0, .ref (h_t 0)), (1, .int y1)] dX9_countCovering_33 (by decide) rfl ?_
    refine r_goto O 4 dX9_countCovering_36 (by decide) ?_
    refine r_lv [1, 2, 0] rfl ?_
    exact hrec4 _ _ _ hf
  have B4 : ∀ n : Nat, ∀ (w_r : Pk) (y1 : Int32) (y2 : Int32), fX9_countCovering_b4 u_t u_w u_T u_P u_d n w_r y1 y2 = some (r0, v_r) → BK X 3 0 0 4 ([nX9 cI cZ cQ h_t (h_w 0) r_b r_l r_H r_x (h_T 0) r_C (h_d 0) r_F (h_r 0) r_n u_t, nX8 cI cZ cQ h_w u_w, nX6 cI cZ cQ h_T (h_w 0) r_L (h_P 0) u_T, nX4 cI cZ cQ h_P (h_w 0) u_P, nX0 cI cZ cQ h_d (h_w 0) (h_T 0) u_d, nX5 cI cZ cQ h_r (h_w 0) w_r]) [(0, .ref (h_t 0)), (1, .int y1), (2, .int y2)] [] := by
    intro n
    induction n with
    | zero => exact fun _ _ _ hf => qno hf
    | succ n hrec4 =>
      intro w_r y1 y2 hf
      have hf : fX9_countCovering_b4_s (fX9_countCovering_b4 u_t u_w u_T u_P u_d n) u_t u_w u_T u_P u_d w_r y1 y2 = some (r0, v_r) := hf
      generalize fX9_countCovering_b4 u_t u_w u_T u_P u_d n = rec4 at hf hrec4
      unfold fX9_countCovering_b4_s at hf
      refine r_ild_n O 5 rfl 2 rfl dX9_countCovering_4 ?_
      refine r_ald_n O 6 rfl 0 rfl dX9_countCovering_5 ?_
      refine r_get (ref := RX9) (C := RX9) (T := TX9) (N := 13) O 9 rfl inBX9 0 7 rfl rfl rfl (by decide) flX9_53 rfl rfl dX9_countCovering_6 ?_
      obtain ⟨x9, hq9, hf⟩ := qb1_some hf
      refine k_VI O 12 rfl (zX0_size (l := xl X) (D := xD X) (cI := cI) (cZ := cZ) (cQ := cQ) (h_t := h_d) (r_w := (h_w 0)) (r_T := (h_T 0)) hq9) (gV mlX9_258 mvX0_size izX0) rfl rfl rfl hdX0_size ⟨Nat.le_of_ble_eq_true rfl, Nat.le_of_ble_eq_true rfl⟩ rfl 4 rfl rfl rfl rfl (Nat.le_of_ble_eq_true rfl) ⟨Nat.zero_le _, Nat.zero_le _⟩ [4] rfl rfl rfl ([nX9 cI cZ cQ h_t (h_w 0) r_b r_l r_H r_x (h_T 0) r_C (h_d 0) r_F (h_r 0) r_n u_t, nX8 cI cZ cQ h_w u_w, nX6 cI cZ cQ h_T (h_w 0) r_L (h_P 0) u_T, nX4 cI cZ cQ h_P (h_w 0) u_P, nX0 cI cZ cQ h_d (h_w 0) (h_T 0) u_d, nX5 cI cZ cQ h_r (h_w 0) w_r]) rfl dX9_countCovering_9 ?_
      refine r_icmp_ge O 15 rfl 39 dX9_countCovering_12 (by decide) (fun hc12 => ?_) (fun hc12 => ?_)
      · rw [if_pos hc12] at hf
        refine r_ild_n O 40 rfl 1 rfl dX9_countCovering_39 ?_
        obtain ⟨g0, g1⟩ := qe2 hf
        exact r_iret2 O E g0 (by rw [g1]) dX9_countCovering_40
      · rw [if_neg hc12] at hf
        refine r_ald_n O 16 rfl 0 rfl dX9_countCovering_15 ?_
        refine r_ald_n O 17 rfl 0 rfl dX9_countCovering_16 ?_
        refine r_get (ref := RX9) (C := RX9) (T := TX9) (N := 13) O 20 rfl inBX9 0 7 rfl rfl rfl (by decide) flX9_53 rfl rfl dX9_countCovering_17 ?_
        refine r_ild_n O 21 rfl 2 rfl dX9_countCovering_20 ?_
        obtain ⟨x21, hq21, hf⟩ := qb1_some hf
        refine k_VI O 24 rfl (zX0_pieceAt (l := xl X) (D := xD X) (cI := cI) (cZ := cZ) (cQ := cQ) (h_t := h_d) (r_w := (h_w 0)) (r_T := (h_T 0)) hq21) (gV mlX9_259 mvX0_pieceAt izX0) rfl rfl rfl hdX0_pieceAt ⟨Nat.le_of_ble_eq_true rfl, Nat.le_of_ble_eq_true rfl⟩ rfl 4 rfl rfl rfl rfl (Nat.le_of_ble_eq_true rfl) ⟨Nat.zero_le _, Nat.zero_le _⟩ [4] rfl rfl rfl ([nX9 cI cZ cQ h_t (h_w 0) r_b r_l r_H r_x (h_T 0) r_C (h_d 0) r_F (h_r 0) r_n u_t, nX8 cI cZ cQ h_w u_w, nX6 cI cZ cQ h_T (h_w 0) r_L (h_P 0) u_T, nX4 cI cZ cQ h_P (h_w 0) u_P, nX0 cI cZ cQ h_d (h_w 0) (h_T 0) u_d, nX5 cI cZ cQ h_r (h_w 0) w_r]) rfl dX9_countCovering_21 ?_
        obtain ⟨x24, p24_r, hq24, hf⟩ := qb2_some hf
        refine k_VZ O 27 rfl (zX9_covers (l := xl X) (D := xD X) (cI := cI) (cZ := cZ) (cQ := cQ) (h_t := h_t) (h_w := h_w) (r_b := r_b) (r_l := r_l) (r_H := r_H) (r_x := r_x) (h_T := h_T) (r_L := r_L) (h_P := h_P) (r_C := r_C) (r_d := (h_d 0)) (r_F := r_F) (h_r := h_r) (r_n := r_n) hq24) (gV mlX9_278 mvX9_covers izX9) rfl rfl rfl hdX9_covers ⟨Nat.le_of_ble_eq_true rfl, Nat.le_of_ble_eq_true rfl⟩ rfl 0 rfl rfl rfl rfl (Nat.le_of_ble_eq_true rfl) ⟨Nat.zero_le _, Nat.zero_le _⟩ [0, 1, 2, 3, 5] rfl rfl rfl ([nX9 cI cZ cQ h_t (h_w 0) r_b r_l r_H r_x (h_T 0) r_C (h_d 0) r_F (h_r 0) r_n u_t, nX8 cI cZ cQ h_w u_w, nX6 cI cZ cQ h_T (h_w 0) r_L (h_P 0) u_T, nX4 cI cZ cQ h_P (h_w 0) u_P, nX0 cI cZ cQ h_d (h_w 0) (h_T 0) u_d, nX5 cI cZ cQ h_r (h_w 0) p24_r]) rfl dX9_countCovering_24 (fun hz24 => ?_)
        refine r_if_eq O 30 rfl 33 dX9_countCovering_27 (by decide) (fun hc27 => ?_) (fun hc27 => ?_)
        · rw [if_pos hc27] at hf
          exact B33 rec4 hrec4 _ _ _ hf
        · rw [if_neg hc27] at hf
          obtain ⟨x30, ex30, hf⟩ := qn_some hf
          refine r_iinc O 33 rfl x30 1 rfl (by rw [ex30]; rfl) [(1, .int x30), (0, .ref (h_t 0)), (2, .int y2)] dX9_countCovering_30 (by decide) rfl ?_
          refine r_lv [1, 0, 2] rfl ?_
          exact B33 rec4 hrec4 _ _ _ hf
  unfold fX9_countCovering at hf
  refine r_ic O 1 rfl 0 (by decide) dX9_countCovering_0 ?_
  refine r_ist_n O 2 rfl rfl [(1, .int 0), (0, .ref (h_t 0))] dX9_countCovering_1 (by decide) rfl ?_
  refine r_ic O 3 rfl 0 (by decide) dX9_countCovering_2 ?_
  refine r_ist_n O 4 rfl rfl [(2, .int 0), (1, .int 0), (0, .ref (h_t 0))] dX9_countCovering_3 (by decide) rfl ?_
  refine r_lv [2, 1, 0] rfl ?_
  exact B4 FU _ _ _ hf
-- X9_paintCount
def rmX9_paintCount : Room := { frames := 41, cells := 0, slots := 0, locals := 1071 }
set_option maxHeartbeats 4000000 in
set_option maxRecDepth 100000 in
theorem zX9_paintCount {l : Launch} {D : va_G} {cI cZ cQ : ClassId} {h_t h_w h_b h_T h_L h_P h_d h_r : Nat → Nat} {r_l r_H r_x r_C r_F r_n : Nat} {u_w u_t u_b u_T u_L u_P u_d u_r : Pk} {a1 : Int32} {a2 : Int32} {a3 : Int32} {a4 : Int32} {r0 : Int32} {v_t v_b v_T v_L v_P v_d v_r : Pk} (hf : fX9_paintCount u_w u_t u_b u_T u_L u_P u_d u_r a1 a2 a3 a4 = some (r0, v_t, v_b, v_T, v_L, v_P, v_d, v_r)) : MI l yX9_paintCount wsX9_paintCount rmX9_paintCount D (TY cI cZ cQ) [.ref (h_t 0), .int a1, .int a2, .int a3, .int a4] [nX9 cI cZ cQ h_t (h_w 0) (h_b 0) r_l r_H r_x (h_T 0) r_C (h_d 0) r_F (h_r 0) r_n u_t, nX8 cI cZ cQ h_w u_w, nX8 cI cZ cQ h_b u_b, nX6 cI cZ cQ h_T (h_w 0) (h_L 0) (h_P 0) u_T, nX4 cI cZ cQ h_L (h_w 0) u_L, nX4 cI cZ cQ h_P (h_w 0) u_P, nX0 cI cZ cQ h_d (h_w 0) (h_T 0) u_d, nX5 cI cZ cQ h_r (h_w 0) u_r] r0 [nX9 cI cZ cQ h_t (h_w 0) (h_b 0) r_l r_H r_x (h_T 0) r_C (h_d 0) r_F (h_r 0) r_n v_t, nX8 cI cZ cQ h_w u_w, nX8 cI cZ cQ h_b v_b, nX6 cI cZ cQ h_T (h_w 0) (h_L 0) (h_P 0) v_T, nX4 cI cZ cQ h_L (h_w 0) v_L, nX4 cI cZ cQ h_P (h_w 0) v_P, nX0 cI cZ cQ h_d (h_w 0) (h_T 0) v_d, nX5 cI cZ cQ h_r (h_w 0) v_r] := by
  refine MI.of (own := RX9) (by decide +kernel) rfl rfl (Nat.le_of_ble_eq_true rfl) (lv0 := [(0, .ref (h_t 0)), (1, .int a1), (2, .int a2), (3, .int a3), (4, .int a4)]) rfl ?_
  intro X O E
  have B42 : ∀ n : Nat, ∀ (w_t : Pk) (w_b : Pk) (w_T : Pk) (w_L : Pk) (w_P : Pk) (w_d : Pk) (w_r : Pk) (y3 : Int32) (y4 : Int32) (y5 : Int32) (y6 : Int32), fX9_paintCount_b42 u_w n w_t w_b w_T w_L w_P w_d w_r y3 y4 y5 y6 = some (r0, v_t, v_b, v_T, v_L, v_P, v_d, v_r) → BK X 7 0 0 42 ([nX9 cI cZ cQ h_t (h_w 0) (h_b 0) r_l r_H r_x (h_T 0) r_C (h_d 0) r_F (h_r 0) r_n w_t, nX8 cI cZ cQ h_w u_w, nX8 cI cZ cQ h_b w_b, nX6 cI cZ cQ h_T (h_w 0) (h_L 0) (h_P 0) w_T, nX4 cI cZ cQ h_L (h_w 0) w_L, nX4 cI cZ cQ h_P (h_w 0) w_P, nX0 cI cZ cQ h_d (h_w 0) (h_T 0) w_d, nX5 cI cZ cQ h_r (h_w 0) w_r]) [(0, .ref (h_t 0)), (3, .int y3), (4, .int y4), (5, .int y5), (6, .int y6)] [] := by
    intro n
    induction n with
    | zero => exact fun _ _ _ _ _ _ _ _ _ _ _ hf => qno hf
    | succ n hrec42 =>
      intro w_t w_b w_T w_L w_P w_d w_r y3 y4 y5 y6 hf
      have hf : fX9_paintCount_b42_s (fX9_paintCount_b42 u_w n) u_w w_t w_b w_T w_L w_P w_d w_r y3 y4 y5 y6 = some (r0, v_t, v_b, v_T, v_L, v_P, v_d, v_r) := hf
      generalize fX9_paintCount_b42 u_w n = rec42 at hf hrec42
      unfold fX9_paintCount_b42_s at hf
      refine r_ild O 44 rfl 4 rfl dX9_paintCount_42 ?_
      refine r_bi O 46 rfl 32 (by decide) dX9_paintCount_44 ?_
      refine r_icmp_ge O 49 rfl 76 dX9_paintCount_46 (by decide) (fun hc46 => ?_) (fun hc46 => ?_)
      · rw [if_pos hc46] at hf
        refine r_ild O 78 rfl 3 rfl dX9_paintCount_76 ?_
        obtain ⟨g0, g1, g2, g3, g4, g5, g6, g7⟩ := qe8 hf
        exact r_iret2 O E g0 (by rw [g1, g2, g3, g4, g5, g6, g7]) dX9_paintCount_78
      · rw [if_neg hc46] at hf
        refine r_ald_n O 50 rfl 0 rfl dX9_paintCount_49 ?_
        refine r_get (ref := RX9) (C := RX9) (T := TX9) (N := 13) O 53 rfl inBX9 0 9 rfl rfl rfl (by decide) flX9_67 rfl rfl dX9_paintCount_50 ?_
        refine r_ild_n O 54 rfl 1 rfl dX9_paintCount_53 ?_
        refine r_ild O 56 rfl 2 rfl dX9_paintCount_54 ?_
        refine r_ild O 58 rfl 4 rfl dX9_paintCount_56 ?_
        obtain ⟨p58_r, hq58, hf⟩ := qb1_some hf
        refine k_VV O 61 rfl (zX5_aimAtColumn (l := xl X) (D := xD X) (cI := cI) (cZ := cZ) (cQ := cQ) (h_t := h_r) (r_w := (h_w 0)) hq58) (gV mlX9_269 mvX5_aimAtColumn izX5) rfl rfl rfl hdX5_aimAtColumn ⟨Nat.le_of_ble_eq_true rfl, Nat.le_of_ble_eq_true rfl⟩ rfl 7 rfl rfl rfl rfl (Nat.le_of_ble_eq_true rfl) ⟨Nat.zero_le _, Nat.zero_le _⟩ [7] rfl rfl rfl ([nX9 cI cZ cQ h_t (h_w 0) (h_b 0) r_l r_H r_x (h_T 0) r_C (h_d 0) r_F (h_r 0) r_n w_t, nX8 cI cZ cQ h_w u_w, nX8 cI cZ cQ h_b w_b, nX6 cI cZ cQ h_T (h_w 0) (h_L 0) (h_P 0) w_T, nX4 cI cZ cQ h_L (h_w 0) w_L, nX4 cI cZ cQ h_P (h_w 0) w_P, nX0 cI cZ cQ h_d (h_w 0) (h_T 0) w_d, nX5 cI cZ cQ h_r (h_w 0) p58_r]) rfl dX9_paintCount_58 ?_
        refine r_ild O 63 rfl 3 rfl dX9_paintCount_61 ?_
        refine r_ald_n O 64 rfl 0 rfl dX9_paintCount_63 ?_
        obtain ⟨x64, p64_r, hq64, hf⟩ := qb2_some hf
        refine k_VI O 67 rfl (zX9_countCovering (l := xl X) (D := xD X) (cI := cI) (cZ := cZ) (cQ := cQ) (h_t := h_t) (h_w := h_w) (r_b := (h_b 0)) (r_l := r_l) (r_H := r_H) (r_x := r_x) (h_T := h_T) (r_L := (h_L 0)) (h_P := h_P) (r_C := r_C) (h_d := h_d) (r_F := r_F) (h_r := h_r) (r_n := r_n) hq64) (gV mlX9_272 mvX9_countCovering izX9) rfl rfl rfl hdX9_countCovering ⟨Nat.le_of_ble_eq_true rfl, Nat.le_of_ble_eq_true rfl⟩ rfl 0 rfl rfl rfl rfl (Nat.le_of_ble_eq_true rfl) ⟨Nat.zero_le _, Nat.zero_le _⟩ [0, 1, 3, 5, 6, 7] rfl rfl rfl ([nX9 cI cZ cQ h_t (h_w 0) (h_b 0) r_l r_H r_x (h_T 0) r_C (h_d 0) r_F (h_r 0) r_n w_t, nX8 cI cZ cQ h_w u_w, nX8 cI cZ cQ h_b w_b, nX6 cI cZ cQ h_T (h_w 0) (h_L 0) (h_P 0) w_T, nX4 cI cZ cQ h_L (h_w 0) w_L, nX4 cI cZ cQ h_P (h_w 0) w_P, nX0 cI cZ cQ h_d (h_w 0) (h_T 0) w_d, nX5 cI cZ cQ h_r (h_w 0) p64_r]) rfl dX9_paintCount_64 ?_
        refine r_iadd O 68 rfl dX9_paintCount_67 ?_
        obtain ⟨x68, ex68, hf⟩ := qn_some hf
        rw [← ex68]
        refine r_ist O 70 rfl [(5, .int x68), (0, .ref (h_t 0)), (3, .int y3), (4, .int y4), (6, .int y6)] dX9_paintCount_68 (by decide) rfl ?_
        obtain ⟨x70, ex70, hf⟩ := qn_some hf
        refine r_iinc O 73 rfl x70 4 rfl (by rw [ex70]; rfl) [(6, .int x70), (5, .int x68), (0, .ref (h_t 0)), (3, .int y3), (4, .int y4)] dX9_paintCount_70 (by decide) rfl ?_
        refine r_goto O 42 dX9_paintCount_73 (by decide) ?_
        refine r_lv [2, 3, 4, 1, 0] rfl ?_
        exact hrec42 _ _ _ _ _ _ _ _ _ _ _ hf
  unfold fX9_paintCount at hf
  refine r_ild_n O 1 rfl 1 rfl dX9_paintCount_0 ?_
  refine r_ild_n O 2 rfl 2 rfl dX9_paintCount_1 ?_
  refine r_ild_n O 3 rfl 3 rfl dX9_paintCount_2 ?_
  refine r_ild O 5 rfl 4 rfl dX9_paintCount_3 ?_
  obtain ⟨x5, hq5, hf⟩ := qb1_some hf
  refine k_SZ O 8 rfl (zX9_isBadPicture (l := xl X) (D := xD X) (cI := cI) (cZ := cZ) (cQ := cQ) hq5) (gS mlX9_262 mvX9_isBadPicture izX9) rfl rfl rfl hdX9_isBadPicture ⟨Nat.le_of_ble_eq_true rfl, Nat.le_of_ble_eq_true rfl⟩ rfl rfl (Nat.le_of_ble_eq_true rfl) ⟨Nat.zero_le _, Nat.zero_le _⟩ [] rfl rfl rfl ([nX9 cI cZ cQ h_t (h_w 0) (h_b 0) r_l r_H r_x (h_T 0) r_C (h_d 0) r_F (h_r 0) r_n u_t, nX8 cI cZ cQ h_w u_w, nX8 cI cZ cQ h_b u_b, nX6 cI cZ cQ h_T (h_w 0) (h_L 0) (h_P 0) u_T, nX4 cI cZ cQ h_L (h_w 0) u_L, nX4 cI cZ cQ h_P (h_w 0) u_P, nX0 cI cZ cQ h_d (h_w 0) (h_T 0) u_d, nX5 cI cZ cQ h_r (h_w 0) u_r]) rfl dX9_paintCount_5 (fun hz5 => ?_)
  refine r_if_eq O 11 rfl 14 dX9_paintCount_8 (by decide) (fun hc8 => ?_) (fun hc8 => ?_)
  · rw [if_pos hc8] at hf
    refine r_ald_n O 15 rfl 0 rfl dX9_paintCount_14 ?_
    obtain ⟨p15_t, p15_b, p15_T, p15_L, p15_P, hq15, hf⟩ := qb5_some hf
    refine k_VV O 18 rfl (zX9_needTree (l := xl X) (D := xD X) (cI := cI) (cZ := cZ) (cQ := cQ) (h_t := h_t) (h_w := h_w) (h_b := h_b) (r_l := r_l) (r_H := r_H) (r_x := r_x) (h_T := h_T) (h_L := h_L) (h_P := h_P) (r_C := r_C) (r_d := (h_d 0)) (r_F := r_F) (r_r := (h_r 0)) (r_n := r_n) hq15) (gV mlX9_197 mvX9_needTree izX9) rfl rfl rfl hdX9_needTree ⟨Nat.le_of_ble_eq_true rfl, Nat.le_of_ble_eq_true rfl⟩ rfl 0 rfl rfl rfl rfl (Nat.le_of_ble_eq_true rfl) ⟨Nat.zero_le _, Nat.zero_le _⟩ [0, 1, 2, 3, 4, 5] rfl rfl rfl ([nX9 cI cZ cQ h_t (h_w 0) (h_b 0) r_l r_H r_x (h_T 0) r_C (h_d 0) r_F (h_r 0) r_n p15_t, nX8 cI cZ cQ h_w u_w, nX8 cI cZ cQ h_b p15_b, nX6 cI cZ cQ h_T (h_w 0) (h_L 0) (h_P 0) p15_T, nX4 cI cZ cQ h_L (h_w 0) p15_L, nX4 cI cZ cQ h_P (h_w 0) p15_P, nX0 cI cZ cQ h_d (h_w 0) (h_T 0) u_d, nX5 cI cZ cQ h_r (h_w 0) u_r]) rfl dX9_paintCount_15 ?_
    refine r_ald_n O 19 rfl 0 rfl dX9_paintCount_18 ?_
    refine r_get (ref := RX9) (C := RX9) (T := TX9) (N := 13) O 22 rfl inBX9 0 7 rfl rfl rfl (by decide) flX9_53 rfl rfl dX9_paintCount_19 ?_
    refine r_ild_n O 23 rfl 1 rfl dX9_paintCount_22 ?_
    refine r_ild_n O 24 rfl 2 rfl dX9_paintCount_23 ?_
    obtain ⟨p24_d, hq24, hf⟩ := qb1_some hf
    refine k_VV O 27 rfl (zX0_arrange (l := xl X) (D := xD X) (cI := cI) (cZ := cZ) (cQ := cQ) (h_t := h_d) (h_w := h_w) (h_T := h_T) (r_L := (h_L 0)) (h_P := h_P) hq24) (gV mlX9_255 mvX0_arrange izX0) rfl rfl rfl hdX0_arrange ⟨Nat.le_of_ble_eq_true rfl, Nat.le_of_ble_eq_true rfl⟩ rfl 6 rfl rfl rfl rfl (Nat.le_of_ble_eq_true rfl) ⟨Nat.zero_le _, Nat.zero_le _⟩ [6, 1, 3, 5] rfl rfl rfl ([nX9 cI cZ cQ h_t (h_w 0) (h_b 0) r_l r_H r_x (h_T 0) r_C (h_d 0) r_F (h_r 0) r_n p15_t, nX8 cI cZ cQ h_w u_w, nX8 cI cZ cQ h_b p15_b, nX6 cI cZ cQ h_T (h_w 0) (h_L 0) (h_P 0) p15_T, nX4 cI cZ cQ h_L (h_w 0) p15_L, nX4 cI cZ cQ h_P (h_w 0) p15_P, nX0 cI cZ cQ h_d (h_w 0) (h_T 0) p24_d, nX5 cI cZ cQ h_r (h_w 0) u_r]) rfl dX9_paintCount_24 ?_
    refine r_ald_n O 28 rfl 0 rfl dX9_paintCount_27 ?_
    refine r_get (ref := RX9) (C := RX9) (T := TX9) (N := 13) O 31 rfl inBX9 0 9 rfl rfl rfl (by decide) flX9_67 rfl rfl dX9_paintCount_28 ?_
    refine r_ild_n O 32 rfl 1 rfl dX9_paintCount_31 ?_
    refine r_ild_n O 33 rfl 2 rfl dX9_paintCount_32 ?_
    obtain ⟨p33_r, hq33, hf⟩ := qb1_some hf
    refine k_VV O 36 rfl (zX5_standAt (l := xl X) (D := xD X) (cI := cI) (cZ := cZ) (cQ := cQ) (h_t := h_r) (h_w := h_w) hq33) (gV mlX9_266 mvX5_standAt izX5) rfl rfl rfl hdX5_standAt ⟨Nat.le_of_ble_eq_true rfl, Nat.le_of_ble_eq_true rfl⟩ rfl 7 rfl rfl rfl rfl (Nat.le_of_ble_eq_true rfl) ⟨Nat.zero_le _, Nat.zero_le _⟩ [7, 1] rfl rfl rfl ([nX9 cI cZ cQ h_t (h_w 0) (h_b 0) r_l r_H r_x (h_T 0) r_C (h_d 0) r_F (h_r 0) r_n p15_t, nX8 cI cZ cQ h_w u_w, nX8 cI cZ cQ h_b p15_b, nX6 cI cZ cQ h_T (h_w 0) (h_L 0) (h_P 0) p15_T, nX4 cI cZ cQ h_L (h_w 0) p15_L, nX4 cI cZ cQ h_P (h_w 0) p15_P, nX0 cI cZ cQ h_d (h_w 0) (h_T 0) p24_d, nX5 cI cZ cQ h_r (h_w 0) p33_r]) rfl dX9_paintCount_33 ?_
    refine r_ic O 37 rfl 0 (by decide) dX9_paintCount_36 ?_
    refine r_ist O 39 rfl [(5, .int 0), (0, .ref (h_t 0)), (1, .int a1), (2, .int a2), (3, .int a3), (4, .int a4)] dX9_paintCount_37 (by decide) rfl ?_
    refine r_ic O 40 rfl 0 (by decide) dX9_paintCount_39 ?_
    refine r_ist O 42 rfl [(6, .int 0), (5, .int 0), (0, .ref (h_t 0)), (1, .int a1), (2, .int a2), (3, .int a3), (4, .int a4)] dX9_paintCount_40 (by decide) rfl ?_
    refine r_lv [2, 5, 6, 1, 0] rfl ?_
    exact B42 FU _ _ _ _ _ _ _ _ _ _ _ hf
  · rw [if_neg hc8] at hf
    refine r_bi O 13 rfl (-2) (by decide) dX9_paintCount_11 ?_
    obtain ⟨g0, g1, g2, g3, g4, g5, g6, g7⟩ := qe8 hf
    exact r_iret2 O E g0 (by rw [g1, g2, g3, g4, g5, g6, g7]) dX9_paintCount_13
-- X9_paintedPiece
def rmX9_paintedPiece : Room := { frames := 41, cells := 0, slots := 0, locals := 1071 }
set_option maxHeartbeats 4000000 in
set_option maxRecDepth 100000 in
theorem zX9_paintedPiece {l : Launch} {D : va_G} {cI cZ cQ : ClassId} {h_t h_w h_b h_T h_L h_P h_d h_r : Nat → Nat} {r_l r_H r_x r_C r_F r_n : Nat} {u_w u_t u_b u_T u_L u_P u_d u_r : Pk} {a1 : Int32} {a2 : Int32} {a3 : Int32} {a4 : Int32} {a5 : Int32} {r0 : Int32} {v_t v_b v_T v_L v_P v_d v_r : Pk} (hf : fX9_paintedPiece u_w u_t u_b u_T u_L u_P u_d u_r a1 a2 a3 a4 a5 = some (r0, v_t, v_b, v_T, v_L, v_P, v_d, v_r)) : MI l yX9_paintedPiece wsX9_paintedPiece rmX9_paintedPiece D (TY cI cZ cQ) [.ref (h_t 0), .int a1, .int a2, .int a3, .int a4, .int a5] [nX9 cI cZ cQ h_t (h_w 0) (h_b 0) r_l r_H r_x (h_T 0) r_C (h_d 0) r_F (h_r 0) r_n u_t, nX8 cI cZ cQ h_w u_w, nX8 cI cZ cQ h_b u_b, nX6 cI cZ cQ h_T (h_w 0) (h_L 0) (h_P 0) u_T, nX4 cI cZ cQ h_L (h_w 0) u_L, nX4 cI cZ cQ h_P (h_w 0) u_P, nX0 cI cZ cQ h_d (h_w 0) (h_T 0) u_d, nX5 cI cZ cQ h_r (h_w 0) u_r] r0 [nX9 cI cZ cQ h_t (h_w 0) (h_b 0) r_l r_H r_x (h_T 0) r_C (h_d 0) r_F (h_r 0) r_n v_t, nX8 cI cZ cQ h_w u_w, nX8 cI cZ cQ h_b v_b, nX6 cI cZ cQ h_T (h_w 0) (h_L 0) (h_P 0) v_T, nX4 cI cZ cQ h_L (h_w 0) v_L, nX4 cI cZ cQ h_P (h_w 0) v_P, nX0 cI cZ cQ h_d (h_w 0) (h_T 0) v_d, nX5 cI cZ cQ h_r (h_w 0) v_r] := by
  refine MI.of (own := RX9) (by decide +kernel) rfl rfl (Nat.le_of_ble_eq_true rfl) (lv0 := [(0, .ref (h_t 0)), (1, .int a1), (2, .int a2), (3, .int a3), (4, .int a4), (5, .int a5)]) rfl ?_
  intro X O E
  have B115 : ∀ (rec67 : Pk → Pk → Pk → Pk → Pk → Pk → Pk → Int32 → Option (Int32 × Pk × Pk × Pk × Pk × Pk × Pk × Pk)), (∀ (w_t : Pk) (w_b : Pk) (w_T : Pk) (w_L : Pk) (w_P : Pk) (w_d : Pk) (w_r : Pk) (y6 : Int32), rec67 w_t w_b w_T w_L w_P w_d w_r y6 = some (r0, v_t, v_b, v_T, v_L, v_P, v_d, v_r) → BK X 8 0 0 67 ([nX9 cI cZ cQ h_t (h_w 0) (h_b 0) r_l r_H r_x (h_T 0) r_C (h_d 0) r_F (h_r 0) r_n w_t, nX8 cI cZ cQ h_w u_w, nX8 cI cZ cQ h_b w_b, nX6 cI cZ cQ h_T (h_w 0) (h_L 0) (h_P 0) w_T, nX4 cI cZ cQ h_L (h_w 0) w_L, nX4 cI cZ cQ h_P (h_w 0) w_P, nX0 cI cZ cQ h_d (h_w 0) (h_T 0) w_d, nX5 cI cZ cQ h_r (h_w 0) w_r]) [(0, .ref (h_t 0)), (6, .int y6)] []) → ∀ (w_t : Pk) (w_b : Pk) (w_T : Pk) (w_L : Pk) (w_P : Pk) (w_d : Pk) (w_r : Pk) (y6 : Int32), fX9_paintedPiece_b115 rec67 u_w w_t w_b w_T w_L w_P w_d w_r y6 = some (r0, v_t, v_b, v_T, v_L, v_P, v_d, v_r) → BK X 8 0 0 115 ([nX9 cI cZ cQ h_t (h_w 0) (h_b 0) r_l r_H r_x (h_T 0) r_C (h_d 0) r_F (h_r 0) r_n w_t, nX8 cI cZ cQ h_w u_w, nX8 cI cZ cQ h_b w_b, nX6 cI cZ cQ h_T (h_w 0) (h_L 0) (h_P 0) w_T, nX4 cI cZ cQ h_L (h_w 0) w_L, nX4 cI cZ cQ h_P (h_w 0) w_P, nX0 cI cZ cQ h_d (h_w 0) (h_T 0) w_d, nX5 cI cZ cQ h_r (h_w 0) w_r]) [(0, .ref (h_t 0)), (6, .int y6)] [] := by
    intro rec67 hrec67 w_t w_b w_T w_L w_P w_d w_r y6 hf
    unfold fX9_paintedPiece_b115 at hf
    obtain ⟨x115, ex115, hf⟩ := qn_some hf
    refine r_iinc O 118 rfl x115 1 rfl (by rw [ex115]; rfl) [(6, .int x115), (0, .ref (h_t 0))] dX9_paintedPiece_115 (by decide) rfl ?_
    refine r_goto O 67 dX9_paintedPiece_118 (by decide) ?_
    refine r_lv [1, 0] rfl ?_
    exact hrec67 _ _ _ _ _ _ _ _ hf
  have B67 : ∀ n : Nat, ∀ (w_t : Pk) (w_b : Pk) (w_T : Pk) (w_L : Pk) (w_P : Pk) (w_d : Pk) (w_r : Pk) (y6 : Int32), fX9_paintedPiece_b67 u_w n w_t w_b w_T w_L w_P w_d w_r y6 = some (r0, v_t, v_b, v_T, v_L, v_P, v_d, v_r) → BK X 8 0 0 67 ([nX9 cI cZ cQ h_t (h_w 0) (h_b 0) r_l r_H r_x (h_T 0) r_C (h_d 0) r_F (h_r 0) r_n w_t, nX8 cI cZ cQ h_w u_w, nX8 cI cZ cQ h_b w_b, nX6 cI cZ cQ h_T (h_w 0) (h_L 0) (h_P 0) w_T, nX4 cI cZ cQ h_L (h_w 0) w_L, nX4 cI cZ cQ h_P (h_w 0) w_P, nX0 cI cZ cQ h_d (h_w 0) (h_T 0) w_d, nX5 cI cZ cQ h_r (h_w 0) w_r]) [(0, .ref (h_t 0)), (6, .int y6)] [] := by
    intro n
    induction n with
    | zero => exact fun _ _ _ _ _ _ _ _ hf => qno hf
    | succ n hrec67 =>
      intro w_t w_b w_T w_L w_P w_d w_r y6 hf
      have hf : fX9_paintedPiece_b67_s (fX9_paintedPiece_b67 u_w n) u_w w_t w_b w_T w_L w_P w_d w_r y6 = some (r0, v_t, v_b, v_T, v_L, v_P, v_d, v_r) := hf
      generalize fX9_paintedPiece_b67 u_w n = rec67 at hf hrec67
      unfold fX9_paintedPiece_b67_s at hf
      refine r_ild O 69 rfl 1 rfl dX9_paintedPiece_67 ?_
      refine r_if_lt O 72 rfl 121 dX9_paintedPiece_69 (by decide) (fun hc69 => ?_) (fun hc69 => ?_)
      · rw [if_pos hc69] at hf
        refine r_bi O 123 rfl (-8) (by decide) dX9_paintedPiece_121 ?_
        obtain ⟨g0, g1, g2, g3, g4, g5, g6, g7⟩ := qe8 hf
        exact r_iret2 O E g0 (by rw [g1, g2, g3, g4, g5, g6, g7]) dX9_paintedPiece_123
      · rw [if_neg hc69] at hf
        refine r_ald_n O 73 rfl 0 rfl dX9_paintedPiece_72 ?_
        refine r_get (ref := RX9) (C := RX9) (T := TX9) (N := 13) O 76 rfl inBX9 0 7 rfl rfl rfl (by decide) flX9_53 rfl rfl dX9_paintedPiece_73 ?_
        refine r_ild O 78 rfl 1 rfl dX9_paintedPiece_76 ?_
        obtain ⟨x78, hq78, hf⟩ := qb1_some hf
        refine k_VI O 81 rfl (zX0_pieceAt (l := xl X) (D := xD X) (cI := cI) (cZ := cZ) (cQ := cQ) (h_t := h_d) (r_w := (h_w 0)) (r_T := (h_T 0)) hq78) (gV mlX9_259 mvX0_pieceAt izX0) rfl rfl rfl hdX0_pieceAt ⟨Nat.le_of_ble_eq_true rfl, Nat.le_of_ble_eq_true rfl⟩ rfl 6 rfl rfl rfl rfl (Nat.le_of_ble_eq_true rfl) ⟨Nat.zero_le _, Nat.zero_le _⟩ [6] rfl rfl rfl ([nX9 cI cZ cQ h_t (h_w 0) (h_b 0) r_l r_H r_x (h_T 0) r_C (h_d 0) r_F (h_r 0) r_n w_t, nX8 cI cZ cQ h_w u_w, nX8 cI cZ cQ h_b w_b, nX6 cI cZ cQ h_T (h_w 0) (h_L 0) (h_P 0) w_T, nX4 cI cZ cQ h_L (h_w 0) w_L, nX4 cI cZ cQ h_P (h_w 0) w_P, nX0 cI cZ cQ h_d (h_w 0) (h_T 0) w_d, nX5 cI cZ cQ h_r (h_w 0) w_r]) rfl dX9_paintedPiece_78 ?_
        refine r_ist O 83 rfl [(7, .int x78), (0, .ref (h_t 0)), (6, .int y6)] dX9_paintedPiece_81 (by decide) rfl ?_
        refine r_ald_n O 84 rfl 1 rfl dX9_paintedPiece_83 ?_
        refine r_get (ref := RX9) (C := RX9) (T := TX9) (N := 13) O 87 rfl inBX9 0 0 rfl rfl rfl (by decide) flX9_12 rfl rfl dX9_paintedPiece_84 ?_
        refine r_ald_n O 88 rfl 1 rfl dX9_paintedPiece_87 ?_
        refine r_get (ref := RX9) (C := RX9) (T := TX9) (N := 13) O 91 rfl inBX9 0 5 rfl rfl rfl (by decide) flX9_41 rfl rfl dX9_paintedPiece_88 ?_
        refine r_ild O 93 rfl 0 rfl dX9_paintedPiece_91 ?_
        obtain ⟨x93, hq93, hf⟩ := qb1_some hf
        refine k_VI O 96 rfl (zX6_wallOfPiece (l := xl X) (D := xD X) (cI := cI) (cZ := cZ) (cQ := cQ) (h_t := h_T) (r_w := (h_w 0)) (r_L := (h_L 0)) (h_P := h_P) hq93) (gV mlX9_224 mvX6_wallOfPiece izX6) rfl rfl rfl hdX6_wallOfPiece ⟨Nat.le_of_ble_eq_true rfl, Nat.le_of_ble_eq_true rfl⟩ rfl 3 rfl rfl rfl rfl (Nat.le_of_ble_eq_true rfl) ⟨Nat.zero_le _, Nat.zero_le _⟩ [3, 5] rfl rfl rfl ([nX9 cI cZ cQ h_t (h_w 0) (h_b 0) r_l r_H r_x (h_T 0) r_C (h_d 0) r_F (h_r 0) r_n w_t, nX8 cI cZ cQ h_w u_w, nX8 cI cZ cQ h_b w_b, nX6 cI cZ cQ h_T (h_w 0) (h_L 0) (h_P 0) w_T, nX4 cI cZ cQ h_L (h_w 0) w_L, nX4 cI cZ cQ h_P (h_w 0) w_P, nX0 cI cZ cQ h_d (h_w 0) (h_T 0) w_d, nX5 cI cZ cQ h_r (h_w 0) w_r]) rfl dX9_paintedPiece_93 ?_
        obtain ⟨x96, hq96, hf⟩ := qb1_some hf
        refine k_VI O 99 rfl (zX8_kindOf (l := xl X) (D := xD X) (cI := cI) (cZ := cZ) (cQ := cQ) (h_t := h_w) hq96) (gV mlX9_140 mvX8_kindOf izX8) rfl rfl rfl hdX8_kindOf ⟨Nat.le_of_ble_eq_true rfl, Nat.le_of_ble_eq_true rfl⟩ rfl 1 rfl rfl rfl rfl (Nat.le_of_ble_eq_true rfl) ⟨Nat.zero_le _, Nat.zero_le _⟩ [1] rfl rfl rfl ([nX9 cI cZ cQ h_t (h_w 0) (h_b 0) r_l r_H r_x (h_T 0) r_C (h_d 0) r_F (h_r 0) r_n w_t, nX8 cI cZ cQ h_w u_w, nX8 cI cZ cQ h_b w_b, nX6 cI cZ cQ h_T (h_w 0) (h_L 0) (h_P 0) w_T, nX4 cI cZ cQ h_L (h_w 0) w_L, nX4 cI cZ cQ h_P (h_w 0) w_P, nX0 cI cZ cQ h_d (h_w 0) (h_T 0) w_d, nX5 cI cZ cQ h_r (h_w 0) w_r]) rfl dX9_paintedPiece_96 ?_
        refine r_ic O 100 rfl 1 (by decide) dX9_paintedPiece_99 ?_
        refine r_icmp_eq O 103 rfl 115 dX9_paintedPiece_100 (by decide) (fun hc100 => ?_) (fun hc100 => ?_)
        · rw [if_pos hc100] at hf
          refine r_lv [1, 2] rfl ?_
          exact B115 rec67 hrec67 _ _ _ _ _ _ _ _ hf
        · rw [if_neg hc100] at hf
          refine r_ald_n O 104 rfl 1 rfl dX9_paintedPiece_103 ?_
          refine r_ild O 106 rfl 0 rfl dX9_paintedPiece_104 ?_
          obtain ⟨x106, p106_r, hq106, hf⟩ := qb2_some hf
          refine k_VZ O 109 rfl (zX9_covers (l := xl X) (D := xD X) (cI := cI) (cZ := cZ) (cQ := cQ) (h_t := h_t) (h_w := h_w) (r_b := (h_b 0)) (r_l := r_l) (r_H := r_H) (r_x := r_x) (h_T := h_T) (r_L := (h_L 0)) (h_P := h_P) (r_C := r_C) (r_d := (h_d 0)) (r_F := r_F) (h_r := h_r) (r_n := r_n) hq106) (gV mlX9_278 mvX9_covers izX9) rfl rfl rfl hdX9_covers ⟨Nat.le_of_ble_eq_true rfl, Nat.le_of_ble_eq_true rfl⟩ rfl 0 rfl rfl rfl rfl (Nat.le_of_ble_eq_true rfl) ⟨Nat.zero_le _, Nat.zero_le _⟩ [0, 1, 3, 5, 7] rfl rfl rfl ([nX9 cI cZ cQ h_t (h_w 0) (h_b 0) r_l r_H r_x (h_T 0) r_C (h_d 0) r_F (h_r 0) r_n w_t, nX8 cI cZ cQ h_w u_w, nX8 cI cZ cQ h_b w_b, nX6 cI cZ cQ h_T (h_w 0) (h_L 0) (h_P 0) w_T, nX4 cI cZ cQ h_L (h_w 0) w_L, nX4 cI cZ cQ h_P (h_w 0) w_P, nX0 cI cZ cQ h_d (h_w 0) (h_T 0) w_d, nX5 cI cZ cQ h_r (h_w 0) p106_r]) rfl dX9_paintedPiece_106 (fun hz106 => ?_)
          refine r_if_eq O 112 rfl 115 dX9_paintedPiece_109 (by decide) (fun hc109 => ?_) (fun hc109 => ?_)
          · rw [if_pos hc109] at hf
            refine r_lv [1, 2] rfl ?_
            exact B115 rec67 hrec67 _ _ _ _ _ _ _ _ hf
          · rw [if_neg hc109] at hf
            refine r_ild O 114 rfl 0 rfl dX9_paintedPiece_112 ?_
            obtain ⟨g0, g1, g2, g3, g4, g5, g6, g7⟩ := qe8 hf
            exact r_iret2 O E g0 (by rw [g1, g2, g3, g4, g5, g6, g7]) dX9_paintedPiece_114
  unfold fX9_paintedPiece at hf
  refine r_ild_n O 1 rfl 1 rfl dX9_paintedPiece_0 ?_
  refine r_ild_n O 2 rfl 2 rfl dX9_paintedPiece_1 ?_
  refine r_ild_n O 3 rfl 3 rfl dX9_paintedPiece_2 ?_
  refine r_ild O 5 rfl 4 rfl dX9_paintedPiece_3 ?_
  obtain ⟨x5, hq5, hf⟩ := qb1_some hf
  refine k_SZ O 8 rfl (zX9_isBadPicture (l := xl X) (D := xD X) (cI := cI) (cZ := cZ) (cQ := cQ) hq5) (gS mlX9_262 mvX9_isBadPicture izX9) rfl rfl rfl hdX9_isBadPicture ⟨Nat.le_of_ble_eq_true rfl, Nat.le_of_ble_eq_true rfl⟩ rfl rfl (Nat.le_of_ble_eq_true rfl) ⟨Nat.zero_le _, Nat.zero_le _⟩ [] rfl rfl rfl ([nX9 cI cZ cQ h_t (h_w 0) (h_b 0) r_l r_H r_x (h_T 0) r_C (h_d 0) r_F (h_r 0) r_n u_t, nX8 cI cZ cQ h_w u_w, nX8 cI cZ cQ h_b u_b, nX6 cI cZ cQ h_T (h_w 0) (h_L 0) (h_P 0) u_T, nX4 cI cZ cQ h_L (h_w 0) u_L, nX4 cI cZ cQ h_P (h_w 0) u_P, nX0 cI cZ cQ h_d (h_w 0) (h_T 0) u_d, nX5 cI cZ cQ h_r (h_w 0) u_r]) rfl dX9_paintedPiece_5 (fun hz5 => ?_)
  refine r_if_ne O 11 rfl 19 dX9_paintedPiece_8 (by decide) (fun hc8 => ?_) (fun hc8 => ?_)
  · rw [if_neg hc8] at hf
    refine r_bi O 21 rfl (-2) (by decide) dX9_paintedPiece_19 ?_
    obtain ⟨g0, g1, g2, g3, g4, g5, g6, g7⟩ := qe8 hf
    exact r_iret2 O E g0 (by rw [g1, g2, g3, g4, g5, g6, g7]) dX9_paintedPiece_21
  · rw [if_pos hc8] at hf
    refine r_ild O 13 rfl 5 rfl dX9_paintedPiece_11 ?_
    obtain ⟨x13, hq13, hf⟩ := qb1_some hf
    refine k_SZ O 16 rfl (zX9_isBadColumn (l := xl X) (D := xD X) (cI := cI) (cZ := cZ) (cQ := cQ) hq13) (gS mlX9_275 mvX9_isBadColumn izX9) rfl rfl rfl hdX9_isBadColumn ⟨Nat.le_of_ble_eq_true rfl, Nat.le_of_ble_eq_true rfl⟩ rfl rfl (Nat.le_of_ble_eq_true rfl) ⟨Nat.zero_le _, Nat.zero_le _⟩ [] rfl rfl rfl ([nX9 cI cZ cQ h_t (h_w 0) (h_b 0) r_l r_H r_x (h_T 0) r_C (h_d 0) r_F (h_r 0) r_n u_t, nX8 cI cZ cQ h_w u_w, nX8 cI cZ cQ h_b u_b, nX6 cI cZ cQ h_T (h_w 0) (h_L 0) (h_P 0) u_T, nX4 cI cZ cQ h_L (h_w 0) u_L, nX4 cI cZ cQ h_P (h_w 0) u_P, nX0 cI cZ cQ h_d (h_w 0) (h_T 0) u_d, nX5 cI cZ cQ h_r (h_w 0) u_r]) rfl dX9_paintedPiece_13 (fun hz13 => ?_)
    refine r_if_eq O 19 rfl 22 dX9_paintedPiece_16 (by decide) (fun hc16 => ?_) (fun hc16 => ?_)
    · rw [if_pos hc16] at hf
      refine r_ald_n O 23 rfl 0 rfl dX9_paintedPiece_22 ?_
      obtain ⟨p23_t, p23_b, p23_T, p23_L, p23_P, hq23, hf⟩ := qb5_some hf
      refine k_VV O 26 rfl (zX9_needTree (l := xl X) (D := xD X) (cI := cI) (cZ := cZ) (cQ := cQ) (h_t := h_t) (h_w := h_w) (h_b := h_b) (r_l := r_l) (r_H := r_H) (r_x := r_x) (h_T := h_T) (h_L := h_L) (h_P := h_P) (r_C := r_C) (r_d := (h_d 0)) (r_F := r_F) (r_r := (h_r 0)) (r_n := r_n) hq23) (gV mlX9_197 mvX9_needTree izX9) rfl rfl rfl hdX9_needTree ⟨Nat.le_of_ble_eq_true rfl, Nat.le_of_ble_eq_true rfl⟩ rfl 0 rfl rfl rfl rfl (Nat.le_of_ble_eq_true rfl) ⟨Nat.zero_le _, Nat.zero_le _⟩ [0, 1, 2, 3, 4, 5] rfl rfl rfl ([nX9 cI cZ cQ h_t (h_w 0) (h_b 0) r_l r_H r_x (h_T 0) r_C (h_d 0) r_F (h_r 0) r_n p23_t, nX8 cI cZ cQ h_w u_w, nX8 cI cZ cQ h_b p23_b, nX6 cI cZ cQ h_T (h_w 0) (h_L 0) (h_P 0) p23_T, nX4 cI cZ cQ h_L (h_w 0) p23_L, nX4 cI cZ cQ h_P (h_w 0) p23_P, nX0 cI cZ cQ h_d (h_w 0) (h_T 0) u_d, nX5 cI cZ cQ h_r (h_w 0) u_r]) rfl dX9_paintedPiece_23 ?_
      refine r_ald_n O 27 rfl 0 rfl dX9_paintedPiece_26 ?_
      refine r_get (ref := RX9) (C := RX9) (T := TX9) (N := 13) O 30 rfl inBX9 0 7 rfl rfl rfl (by decide) flX9_53 rfl rfl dX9_paintedPiece_27 ?_
      refine r_ild_n O 31 rfl 1 rfl dX9_paintedPiece_30 ?_
      refine r_ild_n O 32 rfl 2 rfl dX9_paintedPiece_31 ?_
      obtain ⟨p32_d, hq32, hf⟩ := qb1_some hf
      refine k_VV O 35 rfl (zX0_arrange (l := xl X) (D := xD X) (cI := cI) (cZ := cZ) (cQ := cQ) (h_t := h_d) (h_w := h_w) (h_T := h_T) (r_L := (h_L 0)) (h_P := h_P) hq32) (gV mlX9_255 mvX0_arrange izX0) rfl rfl rfl hdX0_arrange ⟨Nat.le_of_ble_eq_true rfl, Nat.le_of_ble_eq_true rfl⟩ rfl 6 rfl rfl rfl rfl (Nat.le_of_ble_eq_true rfl) ⟨Nat.zero_le _, Nat.zero_le _⟩ [6, 1, 3, 5] rfl rfl rfl ([nX9 cI cZ cQ h_t (h_w 0) (h_b 0) r_l r_H r_x (h_T 0) r_C (h_d 0) r_F (h_r 0) r_n p23_t, nX8 cI cZ cQ h_w u_w, nX8 cI cZ cQ h_b p23_b, nX6 cI cZ cQ h_T (h_w 0) (h_L 0) (h_P 0) p23_T, nX4 cI cZ cQ h_L (h_w 0) p23_L, nX4 cI cZ cQ h_P (h_w 0) p23_P, nX0 cI cZ cQ h_d (h_w 0) (h_T 0) p32_d, nX5 cI cZ cQ h_r (h_w 0) u_r]) rfl dX9_paintedPiece_32 ?_
      refine r_ald_n O 36 rfl 0 rfl dX9_paintedPiece_35 ?_
      refine r_get (ref := RX9) (C := RX9) (T := TX9) (N := 13) O 39 rfl inBX9 0 9 rfl rfl rfl (by decide) flX9_67 rfl rfl dX9_paintedPiece_36 ?_
      refine r_ild_n O 40 rfl 1 rfl dX9_paintedPiece_39 ?_
      refine r_ild_n O 41 rfl 2 rfl dX9_paintedPiece_40 ?_
      obtain ⟨p41_r, hq41, hf⟩ := qb1_some hf
      refine k_VV O 44 rfl (zX5_standAt (l := xl X) (D := xD X) (cI := cI) (cZ := cZ) (cQ := cQ) (h_t := h_r) (h_w := h_w) hq41) (gV mlX9_266 mvX5_standAt izX5) rfl rfl rfl hdX5_standAt ⟨Nat.le_of_ble_eq_true rfl, Nat.le_of_ble_eq_true rfl⟩ rfl 7 rfl rfl rfl rfl (Nat.le_of_ble_eq_true rfl) ⟨Nat.zero_le _, Nat.zero_le _⟩ [7, 1] rfl rfl rfl ([nX9 cI cZ cQ h_t (h_w 0) (h_b 0) r_l r_H r_x (h_T 0) r_C (h_d 0) r_F (h_r 0) r_n p23_t, nX8 cI cZ cQ h_w u_w, nX8 cI cZ cQ h_b p23_b, nX6 cI cZ cQ h_T (h_w 0) (h_L 0) (h_P 0) p23_T, nX4 cI cZ cQ h_L (h_w 0) p23_L, nX4 cI cZ cQ h_P (h_w 0) p23_P, nX0 cI cZ cQ h_d (h_w 0) (h_T 0) p32_d, nX5 cI cZ cQ h_r (h_w 0) p41_r]) rfl dX9_paintedPiece_41 ?_
      refine r_ald_n O 45 rfl 0 rfl dX9_paintedPiece_44 ?_
      refine r_get (ref := RX9) (C := RX9) (T := TX9) (N := 13) O 48 rfl inBX9 0 9 rfl rfl rfl (by decide) flX9_67 rfl rfl dX9_paintedPiece_45 ?_
      refine r_ild_n O 49 rfl 3 rfl dX9_paintedPiece_48 ?_
      refine r_ild O 51 rfl 4 rfl dX9_paintedPiece_49 ?_
      refine r_ild O 53 rfl 5 rfl dX9_paintedPiece_51 ?_
      obtain ⟨p53_r, hq53, hf⟩ := qb1_some hf
      refine k_VV O 56 rfl (zX5_aimAtColumn (l := xl X) (D := xD X) (cI := cI) (cZ := cZ) (cQ := cQ) (h_t := h_r) (r_w := (h_w 0)) hq53) (gV mlX9_269 mvX5_aimAtColumn izX5) rfl rfl rfl hdX5_aimAtColumn ⟨Nat.le_of_ble_eq_true rfl, Nat.le_of_ble_eq_true rfl⟩ rfl 7 rfl rfl rfl rfl (Nat.le_of_ble_eq_true rfl) ⟨Nat.zero_le _, Nat.zero_le _⟩ [7] rfl rfl rfl ([nX9 cI cZ cQ h_t (h_w 0) (h_b 0) r_l r_H r_x (h_T 0) r_C (h_d 0) r_F (h_r 0) r_n p23_t, nX8 cI cZ cQ h_w u_w, nX8 cI cZ cQ h_b p23_b, nX6 cI cZ cQ h_T (h_w 0) (h_L 0) (h_P 0) p23_T, nX4 cI cZ cQ h_L (h_w 0) p23_L, nX4 cI cZ cQ h_P (h_w 0) p23_P, nX0 cI cZ cQ h_d (h_w 0) (h_T 0) p32_d, nX5 cI cZ cQ h_r (h_w 0) p53_r]) rfl dX9_paintedPiece_53 ?_
      refine r_ald_n O 57 rfl 0 rfl dX9_paintedPiece_56 ?_
      refine r_get (ref := RX9) (C := RX9) (T := TX9) (N := 13) O 60 rfl inBX9 0 7 rfl rfl rfl (by decide) flX9_53 rfl rfl dX9_paintedPiece_57 ?_
      obtain ⟨x60, hq60, hf⟩ := qb1_some hf
      refine k_VI O 63 rfl (zX0_size (l := xl X) (D := xD X) (cI := cI) (cZ := cZ) (cQ := cQ) (h_t := h_d) (r_w := (h_w 0)) (r_T := (h_T 0)) hq60) (gV mlX9_258 mvX0_size izX0) rfl rfl rfl hdX0_size ⟨Nat.le_of_ble_eq_true rfl, Nat.le_of_ble_eq_true rfl⟩ rfl 6 rfl rfl rfl rfl (Nat.le_of_ble_eq_true rfl) ⟨Nat.zero_le _, Nat.zero_le _⟩ [6] rfl rfl rfl ([nX9 cI cZ cQ h_t (h_w 0) (h_b 0) r_l r_H r_x (h_T 0) r_C (h_d 0) r_F (h_r 0) r_n p23_t, nX8 cI cZ cQ h_w u_w, nX8 cI cZ cQ h_b p23_b, nX6 cI cZ cQ h_T (h_w 0) (h_L 0) (h_P 0) p23_T, nX4 cI cZ cQ h_L (h_w 0) p23_L, nX4 cI cZ cQ h_P (h_w 0) p23_P, nX0 cI cZ cQ h_d (h_w 0) (h_T 0) p32_d, nX5 cI cZ cQ h_r (h_w 0) p53_r]) rfl dX9_paintedPiece_60 ?_
      refine r_ic O 64 rfl 1 (by decide) dX9_paintedPiece_63 ?_
      refine r_isub O 65 rfl dX9_paintedPiece_64 ?_
      obtain ⟨x65, ex65, hf⟩ := qn_some hf
      rw [← ex65]
      refine r_ist O 67 rfl [(6, .int x65), (0, .ref (h_t 0)), (1, .int a1), (2, .int a2), (3, .int a3), (4, .int a4), (5, .int a5)] dX9_paintedPiece_65 (by decide) rfl ?_
      refine r_lv [1, 0] rfl ?_
      exact B67 FU _ _ _ _ _ _ _ _ hf
    · rw [if_neg hc16] at hf
      refine r_bi O 21 rfl (-2) (by decide) dX9_paintedPiece_19 ?_
      obtain ⟨g0, g1, g2, g3, g4, g5, g6, g7⟩ := qe8 hf
      exact r_iret2 O E g0 (by rw [g1, g2, g3, g4, g5, g6, g7]) dX9_paintedPiece_21
-- X9_blocker
def rmX9_blocker : Room := { frames := 3, cells := 0, slots := 0, locals := 69 }
set_option maxHeartbeats 4000000 in
set_option maxRecDepth 100000 in
theorem zX9_blocker {l : Launch} {D : va_G} {cI cZ cQ : ClassId} {h_t h_w h_r : Nat → Nat} {r_b r_l r_H r_x r_T r_C r_d r_F r_n : Nat} {u_t u_w u_r : Pk} {a1 : Int32} {a2 : Int32} {a3 : Int32} {a4 : Int32} {r0 : Int32} {v_r : Pk} (hf : fX9_blocker u_t u_w u_r a1 a2 a3 a4 = some (r0, v_r)) : MI l yX9_blocker wsX9_blocker rmX9_blocker D (TY cI cZ cQ) [.ref (h_t 0), .int a1, .int a2, .int a3, .int a4] [nX9 cI cZ cQ h_t (h_w 0) r_b r_l r_H r_x r_T r_C r_d r_F (h_r 0) r_n u_t, nX8 cI cZ cQ h_w u_w, nX5 cI cZ cQ h_r (h_w 0) u_r] r0 [nX9 cI cZ cQ h_t (h_w 0) r_b r_l r_H r_x r_T r_C r_d r_F (h_r 0) r_n u_t, nX8 cI cZ cQ h_w u_w, nX5 cI cZ cQ h_r (h_w 0) v_r] := by
  refine MI.of (own := RX9) (by decide +kernel) rfl rfl (Nat.le_of_ble_eq_true rfl) (lv0 := [(0, .ref (h_t 0)), (1, .int a1), (2, .int a2), (3, .int a3), (4, .int a4)]) rfl ?_
  intro X O E
  have B31 : ∀ (w_r : Pk) (y1 : Int32) (y2 : Int32) (y3 : Int32) (y4 : Int32), fX9_blocker_b31 u_t u_w w_r y1 y2 y3 y4 = some (r0, v_r) → BK X 5 0 0 31 ([nX9 cI cZ cQ h_t (h_w 0) r_b r_l r_H r_x r_T r_C r_d r_F (h_r 0) r_n u_t, nX8 cI cZ cQ h_w u_w, nX5 cI cZ cQ h_r (h_w 0) w_r]) [(0, .ref (h_t 0)), (1, .int y1), (2, .int y2), (3, .int y3), (4, .int y4)] [] := by
    intro w_r y1 y2 y3 y4 hf
    unfold fX9_blocker_b31 at hf
    refine r_ald_n O 32 rfl 0 rfl dX9_blocker_31 ?_
    refine r_get (ref := RX9) (C := RX9) (T := TX9) (N := 13) O 35 rfl inBX9 0 9 rfl rfl rfl (by decide) flX9_67 rfl rfl dX9_blocker_32 ?_
    refine r_ild_n O 36 rfl 1 rfl dX9_blocker_35 ?_
    refine r_ild_n O 37 rfl 2 rfl dX9_blocker_36 ?_
    obtain ⟨p37_r, hq37, hf⟩ := qb1_some hf
    refine k_VV O 40 rfl (zX5_standAt (l := xl X) (D := xD X) (cI := cI) (cZ := cZ) (cQ := cQ) (h_t := h_r) (h_w := h_w) hq37) (gV mlX9_266 mvX5_standAt izX5) rfl rfl rfl hdX5_standAt ⟨Nat.le_of_ble_eq_true rfl, Nat.le_of_ble_eq_true rfl⟩ rfl 2 rfl rfl rfl rfl (Nat.le_of_ble_eq_true rfl) ⟨Nat.zero_le _, Nat.zero_le _⟩ [2, 1] rfl rfl rfl ([nX9 cI cZ cQ h_t (h_w 0) r_b r_l r_H r_x r_T r_C r_d r_F (h_r 0) r_n u_t, nX8 cI cZ cQ h_w u_w, nX5 cI cZ cQ h_r (h_w 0) p37_r]) rfl dX9_blocker_37 ?_
    refine r_ald_n O 41 rfl 0 rfl dX9_blocker_40 ?_
    refine r_get (ref := RX9) (C := RX9) (T := TX9) (N := 13) O 44 rfl inBX9 0 9 rfl rfl rfl (by decide) flX9_67 rfl rfl dX9_blocker_41 ?_
    refine r_ild_n O 45 rfl 3 rfl dX9_blocker_44 ?_
    refine r_ild_n O 46 rfl 1 rfl dX9_blocker_45 ?_
    refine r_isub O 47 rfl dX9_blocker_46 ?_
    refine r_ild O 49 rfl 4 rfl dX9_blocker_47 ?_
    refine r_ild_n O 50 rfl 2 rfl dX9_blocker_49 ?_
    refine r_isub O 51 rfl dX9_blocker_50 ?_
    obtain ⟨p51_r, hq51, hf⟩ := qb1_some hf
    refine k_VV O 54 rfl (zX5_aim (l := xl X) (D := xD X) (cI := cI) (cZ := cZ) (cQ := cQ) (h_t := h_r) (r_w := (h_w 0)) hq51) (gV mlX9_281 mvX5_aim izX5) rfl rfl rfl hdX5_aim ⟨Nat.le_of_ble_eq_true rfl, Nat.le_of_ble_eq_true rfl⟩ rfl 2 rfl rfl rfl rfl (Nat.le_of_ble_eq_true rfl) ⟨Nat.zero_le _, Nat.zero_le _⟩ [2] rfl rfl rfl ([nX9 cI cZ cQ h_t (h_w 0) r_b r_l r_H r_x r_T r_C r_d r_F (h_r 0) r_n u_t, nX8 cI cZ cQ h_w u_w, nX5 cI cZ cQ h_r (h_w 0) p51_r]) rfl dX9_blocker_51 ?_
    refine r_ald_n O 55 rfl 0 rfl dX9_blocker_54 ?_
    refine r_get (ref := RX9) (C := RX9) (T := TX9) (N := 13) O 58 rfl inBX9 0 9 rfl rfl rfl (by decide) flX9_67 rfl rfl dX9_blocker_55 ?_
    obtain ⟨p58_r, hq58, hf⟩ := qb1_some hf
    refine k_VV O 61 rfl (zX5_findFirstHit (l := xl X) (D := xD X) (cI := cI) (cZ := cZ) (cQ := cQ) (h_t := h_r) (h_w := h_w) hq58) (gV mlX9_284 mvX5_findFirstHit izX5) rfl rfl rfl hdX5_findFirstHit ⟨Nat.le_of_ble_eq_true rfl, Nat.le_of_ble_eq_true rfl⟩ rfl 2 rfl rfl rfl rfl (Nat.le_of_ble_eq_true rfl) ⟨Nat.zero_le _, Nat.zero_le _⟩ [2, 1] rfl rfl rfl ([nX9 cI cZ cQ h_t (h_w 0) r_b r_l r_H r_x r_T r_C r_d r_F (h_r 0) r_n u_t, nX8 cI cZ cQ h_w u_w, nX5 cI cZ cQ h_r (h_w 0) p58_r]) rfl dX9_blocker_58 ?_
    refine r_ald_n O 62 rfl 0 rfl dX9_blocker_61 ?_
    refine r_get (ref := RX9) (C := RX9) (T := TX9) (N := 13) O 65 rfl inBX9 0 9 rfl rfl rfl (by decide) flX9_67 rfl rfl dX9_blocker_62 ?_
    obtain ⟨x65, hq65, hf⟩ := qb1_some hf
    refine k_VZ O 68 rfl (zX5_firstHitIsWithinOne (l := xl X) (D := xD X) (cI := cI) (cZ := cZ) (cQ := cQ) (h_t := h_r) (r_w := (h_w 0)) hq65) (gV mlX9_287 mvX5_firstHitIsWithinOne izX5) rfl rfl rfl hdX5_firstHitIsWithinOne ⟨Nat.le_of_ble_eq_true rfl, Nat.le_of_ble_eq_true rfl⟩ rfl 2 rfl rfl rfl rfl (Nat.le_of_ble_eq_true rfl) ⟨Nat.zero_le _, Nat.zero_le _⟩ [2] rfl rfl rfl ([nX9 cI cZ cQ h_t (h_w 0) r_b r_l r_H r_x r_T r_C r_d r_F (h_r 0) r_n u_t, nX8 cI cZ cQ h_w u_w, nX5 cI cZ cQ h_r (h_w 0) p58_r]) rfl dX9_blocker_65 (fun hz65 => ?_)
    refine r_if_eq O 71 rfl 81 dX9_blocker_68 (by decide) (fun hc68 => ?_) (fun hc68 => ?_)
    · rw [if_pos hc68] at hf
      refine r_bi O 83 rfl (-8) (by decide) dX9_blocker_81 ?_
      obtain ⟨g0, g1⟩ := qe2 hf
      exact r_iret2 O E g0 (by rw [g1]) dX9_blocker_83
    · rw [if_neg hc68] at hf
      refine r_ald_n O 72 rfl 0 rfl dX9_blocker_71 ?_
      refine r_get (ref := RX9) (C := RX9) (T := TX9) (N := 13) O 75 rfl inBX9 0 9 rfl rfl rfl (by decide) flX9_67 rfl rfl dX9_blocker_72 ?_
      obtain ⟨x75, hq75, hf⟩ := qb1_some hf
      refine k_VI O 78 rfl (zX5_firstHitWall (l := xl X) (D := xD X) (cI := cI) (cZ := cZ) (cQ := cQ) (h_t := h_r) (r_w := (h_w 0)) hq75) (gV mlX9_290 mvX5_firstHitWall izX5) rfl rfl rfl hdX5_firstHitWall ⟨Nat.le_of_ble_eq_true rfl, Nat.le_of_ble_eq_true rfl⟩ rfl 2 rfl rfl rfl rfl (Nat.le_of_ble_eq_true rfl) ⟨Nat.zero_le _, Nat.zero_le _⟩ [2] rfl rfl rfl ([nX9 cI cZ cQ h_t (h_w 0) r_b r_l r_H r_x r_T r_C r_d r_F (h_r 0) r_n u_t, nX8 cI cZ cQ h_w u_w, nX5 cI cZ cQ h_r (h_w 0) p58_r]) rfl dX9_blocker_75 ?_
      refine r_goto O 83 dX9_blocker_78 (by decide) ?_
      obtain ⟨g0, g1⟩ := qe2 hf
      exact r_iret2 O E g0 (by rw [g1]) dX9_blocker_83
  unfold fX9_blocker at hf
  refine r_ild_n O 1 rfl 1 rfl dX9_blocker_0 ?_
  refine r_ild_n O 2 rfl 2 rfl dX9_blocker_1 ?_
  obtain ⟨x2, hq2, hf⟩ := qb1_some hf
  refine k_SZ O 5 rfl (zX9_isBadPoint (l := xl X) (D := xD X) (cI := cI) (cZ := cZ) (cQ := cQ) hq2) (gS mlX9_86 mvX9_isBadPoint izX9) rfl rfl rfl hdX9_isBadPoint ⟨Nat.le_of_ble_eq_true rfl, Nat.le_of_ble_eq_true rfl⟩ rfl rfl (Nat.le_of_ble_eq_true rfl) ⟨Nat.zero_le _, Nat.zero_le _⟩ [] rfl rfl rfl ([nX9 cI cZ cQ h_t (h_w 0) r_b r_l r_H r_x r_T r_C r_d r_F (h_r 0) r_n u_t, nX8 cI cZ cQ h_w u_w, nX5 cI cZ cQ h_r (h_w 0) u_r]) rfl dX9_blocker_2 (fun hz2 => ?_)
  refine r_if_ne O 8 rfl 28 dX9_blocker_5 (by decide) (fun hc5 => ?_) (fun hc5 => ?_)
  · rw [if_neg hc5] at hf
    refine r_bi O 30 rfl (-2) (by decide) dX9_blocker_28 ?_
    obtain ⟨g0, g1⟩ := qe2 hf
    exact r_iret2 O E g0 (by rw [g1]) dX9_blocker_30
  · rw [if_pos hc5] at hf
    refine r_ild_n O 9 rfl 3 rfl dX9_blocker_8 ?_
    refine r_ild O 11 rfl 4 rfl dX9_blocker_9 ?_
    obtain ⟨x11, hq11, hf⟩ := qb1_some hf
    refine k_SZ O 14 rfl (zX9_isBadPoint (l := xl X) (D := xD X) (cI := cI) (cZ := cZ) (cQ := cQ) hq11) (gS mlX9_86 mvX9_isBadPoint izX9) rfl rfl rfl hdX9_isBadPoint ⟨Nat.le_of_ble_eq_true rfl, Nat.le_of_ble_eq_true rfl⟩ rfl rfl (Nat.le_of_ble_eq_true rfl) ⟨Nat.zero_le _, Nat.zero_le _⟩ [] rfl rfl rfl ([nX9 cI cZ cQ h_t (h_w 0) r_b r_l r_H r_x r_T r_C r_d r_F (h_r 0) r_n u_t, nX8 cI cZ cQ h_w u_w, nX5 cI cZ cQ h_r (h_w 0) u_r]) rfl dX9_blocker_11 (fun hz11 => ?_)
    refine r_if_ne O 17 rfl 28 dX9_blocker_14 (by decide) (fun hc14 => ?_) (fun hc14 => ?_)
    · rw [if_neg hc14] at hf
      refine r_bi O 30 rfl (-2) (by decide) dX9_blocker_28 ?_
      obtain ⟨g0, g1⟩ := qe2 hf
      exact r_iret2 O E g0 (by rw [g1]) dX9_blocker_30
    · rw [if_pos hc14] at hf
      refine r_ild_n O 18 rfl 1 rfl dX9_blocker_17 ?_
      refine r_ild_n O 19 rfl 3 rfl dX9_blocker_18 ?_
      refine r_icmp_ne O 22 rfl 31 dX9_blocker_19 (by decide) (fun hc19 => ?_) (fun hc19 => ?_)
      · rw [if_neg hc19] at hf
        exact B31 _ _ _ _ _ hf
      · rw [if_pos hc19] at hf
        refine r_ild_n O 23 rfl 2 rfl dX9_blocker_22 ?_
        refine r_ild O 25 rfl 4 rfl dX9_blocker_23 ?_
        refine r_icmp_ne O 28 rfl 31 dX9_blocker_25 (by decide) (fun hc25 => ?_) (fun hc25 => ?_)
        · rw [if_neg hc25] at hf
          exact B31 _ _ _ _ _ hf
        · rw [if_pos hc25] at hf
          refine r_bi O 30 rfl (-2) (by decide) dX9_blocker_28 ?_
          obtain ⟨g0, g1⟩ := qe2 hf
          exact r_iret2 O E g0 (by rw [g1]) dX9_blocker_30
-- X9_columnWall
def rmX9_columnWall : Room := { frames := 3, cells := 0, slots := 0, locals := 69 }
set_option maxHeartbeats 4000000 in
set_option maxRecDepth 100000 in
theorem zX9_columnWall {l : Launch} {D : va_G} {cI cZ cQ : ClassId} {h_t h_w h_r : Nat → Nat} {r_b r_l r_H r_x r_T r_C r_d r_F r_n : Nat} {u_t u_w u_r : Pk} {a1 : Int32} {a2 : Int32} {a3 : Int32} {a4 : Int32} {a5 : Int32} {r0 : Int32} {v_r : Pk} (hf : fX9_columnWall u_t u_w u_r a1 a2 a3 a4 a5 = some (r0, v_r)) : MI l yX9_columnWall wsX9_columnWall rmX9_columnWall D (TY cI cZ cQ) [.ref (h_t 0), .int a1, .int a2, .int a3, .int a4, .int a5] [nX9 cI cZ cQ h_t (h_w 0) r_b r_l r_H r_x r_T r_C r_d r_F (h_r 0) r_n u_t, nX8 cI cZ cQ h_w u_w, nX5 cI cZ cQ h_r (h_w 0) u_r] r0 [nX9 cI cZ cQ h_t (h_w 0) r_b r_l r_H r_x r_T r_C r_d r_F (h_r 0) r_n u_t, nX8 cI cZ cQ h_w u_w, nX5 cI cZ cQ h_r (h_w 0) v_r] := by
  refine MI.of (own := RX9) (by decide +kernel) rfl rfl (Nat.le_of_ble_eq_true rfl) (lv0 := [(0, .ref (h_t 0)), (1, .int a1), (2, .int a2), (3, .int a3), (4, .int a4), (5, .int a5)]) rfl ?_
  intro X O E
  unfold fX9_columnWall at hf
  refine r_ild_n O 1 rfl 1 rfl dX9_columnWall_0 ?_
  refine r_ild_n O 2 rfl 2 rfl dX9_columnWall_1 ?_
  refine r_ild_n O 3 rfl 3 rfl dX9_columnWall_2 ?_
  refine r_ild O 5 rfl 4 rfl dX9_columnWall_3 ?_
  obtain ⟨x5, hq5, hf⟩ := qb1_some hf
  refine k_SZ O 8 rfl (zX9_isBadPicture (l := xl X) (D := xD X) (cI := cI) (cZ := cZ) (cQ := cQ) hq5) (gS mlX9_262 mvX9_isBadPicture izX9) rfl rfl rfl hdX9_isBadPicture ⟨Nat.le_of_ble_eq_true rfl, Nat.le_of_ble_eq_true rfl⟩ rfl rfl (Nat.le_of_ble_eq_true rfl) ⟨Nat.zero_le _, Nat.zero_le _⟩ [] rfl rfl rfl ([nX9 cI cZ cQ h_t (h_w 0) r_b r_l r_H r_x r_T r_C r_d r_F (h_r 0) r_n u_t, nX8 cI cZ cQ h_w u_w, nX5 cI cZ cQ h_r (h_w 0) u_r]) rfl dX9_columnWall_5 (fun hz5 => ?_)
  refine r_if_ne O 11 rfl 19 dX9_columnWall_8 (by decide) (fun hc8 => ?_) (fun hc8 => ?_)
  · rw [if_neg hc8] at hf
    refine r_bi O 21 rfl (-2) (by decide) dX9_columnWall_19 ?_
    obtain ⟨g0, g1⟩ := qe2 hf
    exact r_iret2 O E g0 (by rw [g1]) dX9_columnWall_21
  · rw [if_pos hc8] at hf
    refine r_ild O 13 rfl 5 rfl dX9_columnWall_11 ?_
    obtain ⟨x13, hq13, hf⟩ := qb1_some hf
    refine k_SZ O 16 rfl (zX9_isBadColumn (l := xl X) (D := xD X) (cI := cI) (cZ := cZ) (cQ := cQ) hq13) (gS mlX9_275 mvX9_isBadColumn izX9) rfl rfl rfl hdX9_isBadColumn ⟨Nat.le_of_ble_eq_true rfl, Nat.le_of_ble_eq_true rfl⟩ rfl rfl (Nat.le_of_ble_eq_true rfl) ⟨Nat.zero_le _, Nat.zero_le _⟩ [] rfl rfl rfl ([nX9 cI cZ cQ h_t (h_w 0) r_b r_l r_H r_x r_T r_C r_d r_F (h_r 0) r_n u_t, nX8 cI cZ cQ h_w u_w, nX5 cI cZ cQ h_r (h_w 0) u_r]) rfl dX9_columnWall_13 (fun hz13 => ?_)
    refine r_if_eq O 19 rfl 22 dX9_columnWall_16 (by decide) (fun hc16 => ?_) (fun hc16 => ?_)
    · rw [if_pos hc16] at hf
      refine r_ald_n O 23 rfl 0 rfl dX9_columnWall_22 ?_
      refine r_get (ref := RX9) (C := RX9) (T := TX9) (N := 13) O 26 rfl inBX9 0 9 rfl rfl rfl (by decide) flX9_67 rfl rfl dX9_columnWall_23 ?_
      refine r_ild_n O 27 rfl 1 rfl dX9_columnWall_26 ?_
      refine r_ild_n O 28 rfl 2 rfl dX9_columnWall_27 ?_
      obtain ⟨p28_r, hq28, hf⟩ := qb1_some hf
      refine k_VV O 31 rfl (zX5_standAt (l := xl X) (D := xD X) (cI := cI) (cZ := cZ) (cQ := cQ) (h_t := h_r) (h_w := h_w) hq28) (gV mlX9_266 mvX5_standAt izX5) rfl rfl rfl hdX5_standAt ⟨Nat.le_of_ble_eq_true rfl, Nat.le_of_ble_eq_true rfl⟩ rfl 2 rfl rfl rfl rfl (Nat.le_of_ble_eq_true rfl) ⟨Nat.zero_le _, Nat.zero_le _⟩ [2, 1] rfl rfl rfl ([nX9 cI cZ cQ h_t (h_w 0) r_b r_l r_H r_x r_T r_C r_d r_F (h_r 0) r_n u_t, nX8 cI cZ cQ h_w u_w, nX5 cI cZ cQ h_r (h_w 0) p28_r]) rfl dX9_columnWall_28 ?_
      refine r_ald_n O 32 rfl 0 rfl dX9_columnWall_31 ?_
      refine r_get (ref := RX9) (C := RX9) (T := TX9) (N := 13) O 35 rfl inBX9 0 9 rfl rfl rfl (by decide) flX9_67 rfl rfl dX9_columnWall_32 ?_
      refine r_ild_n O 36 rfl 3 rfl dX9_columnWall_35 ?_
      refine r_ild O 38 rfl 4 rfl dX9_columnWall_36 ?_
      refine r_ild O 40 rfl 5 rfl dX9_columnWall_38 ?_
      obtain ⟨p40_r, hq40, hf⟩ := qb1_some hf
      refine k_VV O 43 rfl (zX5_aimAtColumn (l := xl X) (D := xD X) (cI := cI) (cZ := cZ) (cQ := cQ) (h_t := h_r) (r_w := (h_w 0)) hq40) (gV mlX9_269 mvX5_aimAtColumn izX5) rfl rfl rfl hdX5_aimAtColumn ⟨Nat.le_of_ble_eq_true rfl, Nat.le_of_ble_eq_true rfl⟩ rfl 2 rfl rfl rfl rfl (Nat.le_of_ble_eq_true rfl) ⟨Nat.zero_le _, Nat.zero_le _⟩ [2] rfl rfl rfl ([nX9 cI cZ cQ h_t (h_w 0) r_b r_l r_H r_x r_T r_C r_d r_F (h_r 0) r_n u_t, nX8 cI cZ cQ h_w u_w, nX5 cI cZ cQ h_r (h_w 0) p40_r]) rfl dX9_columnWall_40 ?_
      refine r_ald_n O 44 rfl 0 rfl dX9_columnWall_43 ?_
      refine r_get (ref := RX9) (C := RX9) (T := TX9) (N := 13) O 47 rfl inBX9 0 9 rfl rfl rfl (by decide) flX9_67 rfl rfl dX9_columnWall_44 ?_
      obtain ⟨p47_r, hq47, hf⟩ := qb1_some hf
      refine k_VV O 50 rfl (zX5_findFirstHit (l := xl X) (D := xD X) (cI := cI) (cZ := cZ) (cQ := cQ) (h_t := h_r) (h_w := h_w) hq47) (gV mlX9_284 mvX5_findFirstHit izX5) rfl rfl rfl hdX5_findFirstHit ⟨Nat.le_of_ble_eq_true rfl, Nat.le_of_ble_eq_true rfl⟩ rfl 2 rfl rfl rfl rfl (Nat.le_of_ble_eq_true rfl) ⟨Nat.zero_le _, Nat.zero_le _⟩ [2, 1] rfl rfl rfl ([nX9 cI cZ cQ h_t (h_w 0) r_b r_l r_H r_x r_T r_C r_d r_F (h_r 0) r_n u_t, nX8 cI cZ cQ h_w u_w, nX5 cI cZ cQ h_r (h_w 0) p47_r]) rfl dX9_columnWall_47 ?_
      refine r_ald_n O 51 rfl 0 rfl dX9_columnWall_50 ?_
      refine r_get (ref := RX9) (C := RX9) (T := TX9) (N := 13) O 54 rfl inBX9 0 9 rfl rfl rfl (by decide) flX9_67 rfl rfl dX9_columnWall_51 ?_
      obtain ⟨x54, hq54, hf⟩ := qb1_some hf
      refine k_VI O 57 rfl (zX5_firstHitWall (l := xl X) (D := xD X) (cI := cI) (cZ := cZ) (cQ := cQ) (h_t := h_r) (r_w := (h_w 0)) hq54) (gV mlX9_290 mvX5_firstHitWall izX5) rfl rfl rfl hdX5_firstHitWall ⟨Nat.le_of_ble_eq_true rfl, Nat.le_of_ble_eq_true rfl⟩ rfl 2 rfl rfl rfl rfl (Nat.le_of_ble_eq_true rfl) ⟨Nat.zero_le _, Nat.zero_le _⟩ [2] rfl rfl rfl ([nX9 cI cZ cQ h_t (h_w 0) r_b r_l r_H r_x r_T r_C r_d r_F (h_r 0) r_n u_t, nX8 cI cZ cQ h_w u_w, nX5 cI cZ cQ h_r (h_w 0) p47_r]) rfl dX9_columnWall_54 ?_
      obtain ⟨g0, g1⟩ := qe2 hf
      exact r_iret2 O E g0 (by rw [g1]) dX9_columnWall_57
    · rw [if_neg hc16] at hf
      refine r_bi O 21 rfl (-2) (by decide) dX9_columnWall_19 ?_
      obtain ⟨g0, g1⟩ := qe2 hf
      exact r_iret2 O E g0 (by rw [g1]) dX9_columnWall_21
-- X9_columnDistance
def rmX9_columnDistance : Room := { frames := 3, cells := 0, slots := 0, locals := 69 }
set_option maxHeartbeats 4000000 in
set_option maxRecDepth 100000 in
theorem zX9_columnDistance {l : Launch} {D : va_G} {cI cZ cQ : ClassId} {h_t h_w h_r : Nat → Nat} {r_b r_l r_H r_x r_T r_C r_d r_F r_n : Nat} {u_t u_w u_r : Pk} {a1 : Int32} {a2 : Int32} {a3 : Int32} {a4 : Int32} {a5 : Int32} {a6 : Int32} {r0 : Int32} {v_r : Pk} (hf : fX9_columnDistance u_t u_w u_r a1 a2 a3 a4 a5 a6 = some (r0, v_r)) : MI l yX9_columnDistance wsX9_columnDistance rmX9_columnDistance D (TY cI cZ cQ) [.ref (h_t 0), .int a1, .int a2, .int a3, .int a4, .int a5, .int a6] [nX9 cI cZ cQ h_t (h_w 0) r_b r_l r_H r_x r_T r_C r_d r_F (h_r 0) r_n u_t, nX8 cI cZ cQ h_w u_w, nX5 cI cZ cQ h_r (h_w 0) u_r] r0 [nX9 cI cZ cQ h_t (h_w 0) r_b r_l r_H r_x r_T r_C r_d r_F (h_r 0) r_n u_t, nX8 cI cZ cQ h_w u_w, nX5 cI cZ cQ h_r (h_w 0) v_r] := by
  refine MI.of (own := RX9) (by decide +kernel) rfl rfl (Nat.le_of_ble_eq_true rfl) (lv0 := [(0, .ref (h_t 0)), (1, .int a1), (2, .int a2), (3, .int a3), (4, .int a4), (5, .int a5), (6, .int a6)]) rfl ?_
  intro X O E
  unfold fX9_columnDistance at hf
  refine r_ild_n O 1 rfl 1 rfl dX9_columnDistance_0 ?_
  refine r_ild_n O 2 rfl 2 rfl dX9_columnDistance_1 ?_
  refine r_ild_n O 3 rfl 3 rfl dX9_columnDistance_2 ?_
  refine r_ild O 5 rfl 4 rfl dX9_columnDistance_3 ?_
  obtain ⟨x5, hq5, hf⟩ := qb1_some hf
  refine k_SZ O 8 rfl (zX9_isBadPicture (l := xl X) (D := xD X) (cI := cI) (cZ := cZ) (cQ := cQ) hq5) (gS mlX9_262 mvX9_isBadPicture izX9) rfl rfl rfl hdX9_isBadPicture ⟨Nat.le_of_ble_eq_true rfl, Nat.le_of_ble_eq_true rfl⟩ rfl rfl (Nat.le_of_ble_eq_true rfl) ⟨Nat.zero_le _, Nat.zero_le _⟩ [] rfl rfl rfl ([nX9 cI cZ cQ h_t (h_w 0) r_b r_l r_H r_x r_T r_C r_d r_F (h_r 0) r_n u_t, nX8 cI cZ cQ h_w u_w, nX5 cI cZ cQ h_r (h_w 0) u_r]) rfl dX9_columnDistance_5 (fun hz5 => ?_)
  refine r_if_ne O 11 rfl 29 dX9_columnDistance_8 (by decide) (fun hc8 => ?_) (fun hc8 => ?_)
  · rw [if_neg hc8] at hf
    refine r_bi O 31 rfl (-2) (by decide) dX9_columnDistance_29 ?_
    obtain ⟨g0, g1⟩ := qe2 hf
    exact r_iret2 O E g0 (by rw [g1]) dX9_columnDistance_31
  · rw [if_pos hc8] at hf
    refine r_ild O 13 rfl 5 rfl dX9_columnDistance_11 ?_
    obtain ⟨x13, hq13, hf⟩ := qb1_some hf
    refine k_SZ O 16 rfl (zX9_isBadColumn (l := xl X) (D := xD X) (cI := cI) (cZ := cZ) (cQ := cQ) hq13) (gS mlX9_275 mvX9_isBadColumn izX9) rfl rfl rfl hdX9_isBadColumn ⟨Nat.le_of_ble_eq_true rfl, Nat.le_of_ble_eq_true rfl⟩ rfl rfl (Nat.le_of_ble_eq_true rfl) ⟨Nat.zero_le _, Nat.zero_le _⟩ [] rfl rfl rfl ([nX9 cI cZ cQ h_t (h_w 0) r_b r_l r_H r_x r_T r_C r_d r_F (h_r 0) r_n u_t, nX8 cI cZ cQ h_w u_w, nX5 cI cZ cQ h_r (h_w 0) u_r]) rfl dX9_columnDistance_13 (fun hz13 => ?_)
    refine r_if_ne O 19 rfl 29 dX9_columnDistance_16 (by decide) (fun hc16 => ?_) (fun hc16 => ?_)
    · rw [if_neg hc16] at hf
      refine r_bi O 31 rfl (-2) (by decide) dX9_columnDistance_29 ?_
      obtain ⟨g0, g1⟩ := qe2 hf
      exact r_iret2 O E g0 (by rw [g1]) dX9_columnDistance_31
    · rw [if_pos hc16] at hf
      refine r_ild O 21 rfl 6 rfl dX9_columnDistance_19 ?_
      refine r_ic O 22 rfl 0 (by decide) dX9_columnDistance_21 ?_
      refine r_ic O 23 rfl 1 (by decide) dX9_columnDistance_22 ?_
      obtain ⟨x23, hq23, hf⟩ := qb1_some hf
      refine k_SZ O 26 rfl (zX9_isOutside (l := xl X) (D := xD X) (cI := cI) (cZ := cZ) (cQ := cQ) hq23) (gS mlX9_90 mvX9_isOutside izX9) rfl rfl rfl hdX9_isOutside ⟨Nat.le_of_ble_eq_true rfl, Nat.le_of_ble_eq_true rfl⟩ rfl rfl (Nat.le_of_ble_eq_true rfl) ⟨Nat.zero_le _, Nat.zero_le _⟩ [] rfl rfl rfl ([nX9 cI cZ cQ h_t (h_w 0) r_b r_l r_H r_x r_T r_C r_d r_F (h_r 0) r_n u_t, nX8 cI cZ cQ h_w u_w, nX5 cI cZ cQ h_r (h_w 0) u_r]) rfl dX9_columnDistance_23 (fun hz23 => ?_)
      refine r_if_eq O 29 rfl 32 dX9_columnDistance_26 (by decide) (fun hc26 => ?_) (fun hc26 => ?_)
      · rw [if_pos hc26] at hf
        refine r_ald_n O 33 rfl 0 rfl dX9_columnDistance_32 ?_
        refine r_get (ref := RX9) (C := RX9) (T := TX9) (N := 13) O 36 rfl inBX9 0 9 rfl rfl rfl (by decide) flX9_67 rfl rfl dX9_columnDistance_33 ?_
        refine r_ild_n O 37 rfl 1 rfl dX9_columnDistance_36 ?_
        refine r_ild_n O 38 rfl 2 rfl dX9_columnDistance_37 ?_
        obtain ⟨p38_r, hq38, hf⟩ := qb1_some hf
        refine k_VV O 41 rfl (zX5_standAt (l := xl X) (D := xD X) (cI := cI) (cZ := cZ) (cQ := cQ) (h_t := h_r) (h_w := h_w) hq38) (gV mlX9_266 mvX5_standAt izX5) rfl rfl rfl hdX5_standAt ⟨Nat.le_of_ble_eq_true rfl, Nat.le_of_ble_eq_true rfl⟩ rfl 2 rfl rfl rfl rfl (Nat.le_of_ble_eq_true rfl) ⟨Nat.zero_le _, Nat.zero_le _⟩ [2, 1] rfl rfl rfl ([nX9 cI cZ cQ h_t (h_w 0) r_b r_l r_H r_x r_T r_C r_d r_F (h_r 0) r_n u_t, nX8 cI cZ cQ h_w u_w, nX5 cI cZ cQ h_r (h_w 0) p38_r]) rfl dX9_columnDistance_38 ?_
        refine r_ald_n O 42 rfl 0 rfl dX9_columnDistance_41 ?_
        refine r_get (ref := RX9) (C := RX9) (T := TX9) (N := 13) O 45 rfl inBX9 0 9 rfl rfl rfl (by decide) flX9_67 rfl rfl dX9_columnDistance_42 ?_
        refine r_ild_n O 46 rfl 3 rfl dX9_columnDistance_45 ?_
        refine r_ild O 48 rfl 4 rfl dX9_columnDistance_46 ?_
        refine r_ild O 50 rfl 5 rfl dX9_columnDistance_48 ?_
        obtain ⟨p50_r, hq50, hf⟩ := qb1_some hf
        refine k_VV O 53 rfl (zX5_aimAtColumn (l := xl X) (D := xD X) (cI := cI) (cZ := cZ) (cQ := cQ) (h_t := h_r) (r_w := (h_w 0)) hq50) (gV mlX9_269 mvX5_aimAtColumn izX5) rfl rfl rfl hdX5_aimAtColumn ⟨Nat.le_of_ble_eq_true rfl, Nat.le_of_ble_eq_true rfl⟩ rfl 2 rfl rfl rfl rfl (Nat.le_of_ble_eq_true rfl) ⟨Nat.zero_le _, Nat.zero_le _⟩ [2] rfl rfl rfl ([nX9 cI cZ cQ h_t (h_w 0) r_b r_l r_H r_x r_T r_C r_d r_F (h_r 0) r_n u_t, nX8 cI cZ cQ h_w u_w, nX5 cI cZ cQ h_r (h_w 0) p50_r]) rfl dX9_columnDistance_50 ?_
        refine r_ald_n O 54 rfl 0 rfl dX9_columnDistance_53 ?_
        refine r_get (ref := RX9) (C := RX9) (T := TX9) (N := 13) O 57 rfl inBX9 0 9 rfl rfl rfl (by decide) flX9_67 rfl rfl dX9_columnDistance_54 ?_
        obtain ⟨p57_r, hq57, hf⟩ := qb1_some hf
        refine k_VV O 60 rfl (zX5_findFirstHit (l := xl X) (D := xD X) (cI := cI) (cZ := cZ) (cQ := cQ) (h_t := h_r) (h_w := h_w) hq57) (gV mlX9_284 mvX5_findFirstHit izX5) rfl rfl rfl hdX5_findFirstHit ⟨Nat.le_of_ble_eq_true rfl, Nat.le_of_ble_eq_true rfl⟩ rfl 2 rfl rfl rfl rfl (Nat.le_of_ble_eq_true rfl) ⟨Nat.zero_le _, Nat.zero_le _⟩ [2, 1] rfl rfl rfl ([nX9 cI cZ cQ h_t (h_w 0) r_b r_l r_H r_x r_T r_C r_d r_F (h_r 0) r_n u_t, nX8 cI cZ cQ h_w u_w, nX5 cI cZ cQ h_r (h_w 0) p57_r]) rfl dX9_columnDistance_57 ?_
        refine r_ald_n O 61 rfl 0 rfl dX9_columnDistance_60 ?_
        refine r_get (ref := RX9) (C := RX9) (T := TX9) (N := 13) O 64 rfl inBX9 0 9 rfl rfl rfl (by decide) flX9_67 rfl rfl dX9_columnDistance_61 ?_
        obtain ⟨x64, hq64, hf⟩ := qb1_some hf
        refine k_VI O 67 rfl (zX5_firstHitWall (l := xl X) (D := xD X) (cI := cI) (cZ := cZ) (cQ := cQ) (h_t := h_r) (r_w := (h_w 0)) hq64) (gV mlX9_290 mvX5_firstHitWall izX5) rfl rfl rfl hdX5_firstHitWall ⟨Nat.le_of_ble_eq_true rfl, Nat.le_of_ble_eq_true rfl⟩ rfl 2 rfl rfl rfl rfl (Nat.le_of_ble_eq_true rfl) ⟨Nat.zero_le _, Nat.zero_le _⟩ [2] rfl rfl rfl ([nX9 cI cZ cQ h_t (h_w 0) r_b r_l r_H r_x r_T r_C r_d r_F (h_r 0) r_n u_t, nX8 cI cZ cQ h_w u_w, nX5 cI cZ cQ h_r (h_w 0) p57_r]) rfl dX9_columnDistance_64 ?_
        refine r_bi O 69 rfl (-8) (by decide) dX9_columnDistance_67 ?_
        refine r_icmp_ne O 72 rfl 75 dX9_columnDistance_69 (by decide) (fun hc69 => ?_) (fun hc69 => ?_)
        · rw [if_neg hc69] at hf
          refine r_ald_n O 76 rfl 0 rfl dX9_columnDistance_75 ?_
          refine r_get (ref := RX9) (C := RX9) (T := TX9) (N := 13) O 79 rfl inBX9 0 9 rfl rfl rfl (by decide) flX9_67 rfl rfl dX9_columnDistance_76 ?_
          obtain ⟨x79, hq79, hf⟩ := qb1_some hf
          refine k_VI O 82 rfl (zX5_firstHitTop (l := xl X) (D := xD X) (cI := cI) (cZ := cZ) (cQ := cQ) (h_t := h_r) (r_w := (h_w 0)) hq79) (gV mlX9_293 mvX5_firstHitTop izX5) rfl rfl rfl hdX5_firstHitTop ⟨Nat.le_of_ble_eq_true rfl, Nat.le_of_ble_eq_true rfl⟩ rfl 2 rfl rfl rfl rfl (Nat.le_of_ble_eq_true rfl) ⟨Nat.zero_le _, Nat.zero_le _⟩ [2] rfl rfl rfl ([nX9 cI cZ cQ h_t (h_w 0) r_b r_l r_H r_x r_T r_C r_d r_F (h_r 0) r_n u_t, nX8 cI cZ cQ h_w u_w, nX5 cI cZ cQ h_r (h_w 0) p57_r]) rfl dX9_columnDistance_79 ?_
          refine r_i2l O 83 rfl dX9_columnDistance_82 ?_
          refine r_ald_n O 84 rfl 0 rfl dX9_columnDistance_83 ?_
          refine r_get (ref := RX9) (C := RX9) (T := TX9) (N := 13) O 87 rfl inBX9 0 9 rfl rfl rfl (by decide) flX9_67 rfl rfl dX9_columnDistance_84 ?_
          obtain ⟨x87, hq87, hf⟩ := qb1_some hf
          refine k_VI O 90 rfl (zX5_firstHitBottom (l := xl X) (D := xD X) (cI := cI) (cZ := cZ) (cQ := cQ) (h_t := h_r) (r_w := (h_w 0)) hq87) (gV mlX9_296 mvX5_firstHitBottom izX5) rfl rfl rfl hdX5_firstHitBottom ⟨Nat.le_of_ble_eq_true rfl, Nat.le_of_ble_eq_true rfl⟩ rfl 2 rfl rfl rfl rfl (Nat.le_of_ble_eq_true rfl) ⟨Nat.zero_le _, Nat.zero_le _⟩ [2] rfl rfl rfl ([nX9 cI cZ cQ h_t (h_w 0) r_b r_l r_H r_x r_T r_C r_d r_F (h_r 0) r_n u_t, nX8 cI cZ cQ h_w u_w, nX5 cI cZ cQ h_r (h_w 0) p57_r]) rfl dX9_columnDistance_87 ?_
          refine r_i2l O 91 rfl dX9_columnDistance_90 ?_
          refine r_ild O 93 rfl 6 rfl dX9_columnDistance_91 ?_
          obtain ⟨x93, hq93, hf⟩ := qb1_some hf
          refine k_SL O 96 rfl (zX9_lowestPart (l := xl X) (D := xD X) (cI := cI) (cZ := cZ) (cQ := cQ) hq93) (gS mlX9_299 mvX9_lowestPart izX9) rfl rfl rfl hdX9_lowestPart ⟨Nat.le_of_ble_eq_true rfl, Nat.le_of_ble_eq_true rfl⟩ rfl rfl (Nat.le_of_ble_eq_true rfl) ⟨Nat.zero_le _, Nat.zero_le _⟩ [] rfl rfl rfl ([nX9 cI cZ cQ h_t (h_w 0) r_b r_l r_H r_x r_T r_C r_d r_F (h_r 0) r_n u_t, nX8 cI cZ cQ h_w u_w, nX5 cI cZ cQ h_r (h_w 0) p57_r]) rfl dX9_columnDistance_93 ?_
          refine r_l2i O 97 rfl dX9_columnDistance_96 ?_
          obtain ⟨g0, g1⟩ := qe2 hf
          exact r_iret2 O E g0 (by rw [g1]) dX9_columnDistance_97
        · rw [if_pos hc69] at hf
          refine r_bi O 74 rfl (-8) (by decide) dX9_columnDistance_72 ?_
          obtain ⟨g0, g1⟩ := qe2 hf
          exact r_iret2 O E g0 (by rw [g1]) dX9_columnDistance_74
      · rw [if_neg hc26] at hf
        refine r_bi O 31 rfl (-2) (by decide) dX9_columnDistance_29 ?_
        obtain ⟨g0, g1⟩ := qe2 hf
        exact r_iret2 O E g0 (by rw [g1]) dX9_columnDistance_31
-- X9_paneCount
def rmX9_paneCount : Room := { frames := 3, cells := 0, slots := 0, locals := 70 }
set_option maxHeartbeats 4000000 in
set_option maxRecDepth 100000 in
theorem zX9_paneCount {l : Launch} {D : va_G} {cI cZ cQ : ClassId} {h_t h_w h_r : Nat → Nat} {r_b r_l r_H r_x r_T r_C r_d r_F r_n : Nat} {u_t u_w u_r : Pk} {a1 : Int32} {a2 : Int32} {a3 : Int32} {a4 : Int32} {a5 : Int32} {r0 : Int32} {v_r : Pk} (hf : fX9_paneCount u_t u_w u_r a1 a2 a3 a4 a5 = some (r0, v_r)) : MI l yX9_paneCount wsX9_paneCount rmX9_paneCount D (TY cI cZ cQ) [.ref (h_t 0), .int a1, .int a2, .int a3, .int a4, .int a5] [nX9 cI cZ cQ h_t (h_w 0) r_b r_l r_H r_x r_T r_C r_d r_F (h_r 0) r_n u_t, nX8 cI cZ cQ h_w u_w, nX5 cI cZ cQ h_r (h_w 0) u_r] r0 [nX9 cI cZ cQ h_t (h_w 0) r_b r_l r_H r_x r_T r_C r_d r_F (h_r 0) r_n u_t, nX8 cI cZ cQ h_w u_w, nX5 cI cZ cQ h_r (h_w 0) v_r] := by
  refine MI.of (own := RX9) (by decide +kernel) rfl rfl (Nat.le_of_ble_eq_true rfl) (lv0 := [(0, .ref (h_t 0)), (1, .int a1), (2, .int a2), (3, .int a3), (4, .int a4), (5, .int a5)]) rfl ?_
  intro X O E
  unfold fX9_paneCount at hf
  refine r_ild_n O 1 rfl 1 rfl dX9_paneCount_0 ?_
  refine r_ild_n O 2 rfl 2 rfl dX9_paneCount_1 ?_
  refine r_ild_n O 3 rfl 3 rfl dX9_paneCount_2 ?_
  refine r_ild O 5 rfl 4 rfl dX9_paneCount_3 ?_
  obtain ⟨x5, hq5, hf⟩ := qb1_some hf
  refine k_SZ O 8 rfl (zX9_isBadPicture (l := xl X) (D := xD X) (cI := cI) (cZ := cZ) (cQ := cQ) hq5) (gS mlX9_262 mvX9_isBadPicture izX9) rfl rfl rfl hdX9_isBadPicture ⟨Nat.le_of_ble_eq_true rfl, Nat.le_of_ble_eq_true rfl⟩ rfl rfl (Nat.le_of_ble_eq_true rfl) ⟨Nat.zero_le _, Nat.zero_le _⟩ [] rfl rfl rfl ([nX9 cI cZ cQ h_t (h_w 0) r_b r_l r_H r_x r_T r_C r_d r_F (h_r 0) r_n u_t, nX8 cI cZ cQ h_w u_w, nX5 cI cZ cQ h_r (h_w 0) u_r]) rfl dX9_paneCount_5 (fun hz5 => ?_)
  refine r_if_ne O 11 rfl 19 dX9_paneCount_8 (by decide) (fun hc8 => ?_) (fun hc8 => ?_)
  · rw [if_neg hc8] at hf
    refine r_bi O 21 rfl (-2) (by decide) dX9_paneCount_19 ?_
    obtain ⟨g0, g1⟩ := qe2 hf
    exact r_iret2 O E g0 (by rw [g1]) dX9_paneCount_21
  · rw [if_pos hc8] at hf
    refine r_ild O 13 rfl 5 rfl dX9_paneCount_11 ?_
    obtain ⟨x13, hq13, hf⟩ := qb1_some hf
    refine k_SZ O 16 rfl (zX9_isBadColumn (l := xl X) (D := xD X) (cI := cI) (cZ := cZ) (cQ := cQ) hq13) (gS mlX9_275 mvX9_isBadColumn izX9) rfl rfl rfl hdX9_isBadColumn ⟨Nat.le_of_ble_eq_true rfl, Nat.le_of_ble_eq_true rfl⟩ rfl rfl (Nat.le_of_ble_eq_true rfl) ⟨Nat.zero_le _, Nat.zero_le _⟩ [] rfl rfl rfl ([nX9 cI cZ cQ h_t (h_w 0) r_b r_l r_H r_x r_T r_C r_d r_F (h_r 0) r_n u_t, nX8 cI cZ cQ h_w u_w, nX5 cI cZ cQ h_r (h_w 0) u_r]) rfl dX9_paneCount_13 (fun hz13 => ?_)
    refine r_if_eq O 19 rfl 22 dX9_paneCount_16 (by decide) (fun hc16 => ?_) (fun hc16 => ?_)
    · rw [if_pos hc16] at hf
      refine r_ald_n O 23 rfl 0 rfl dX9_paneCount_22 ?_
      refine r_get (ref := RX9) (C := RX9) (T := TX9) (N := 13) O 26 rfl inBX9 0 9 rfl rfl rfl (by decide) flX9_67 rfl rfl dX9_paneCount_23 ?_
      refine r_ild_n O 27 rfl 1 rfl dX9_paneCount_26 ?_
      refine r_ild_n O 28 rfl 2 rfl dX9_paneCount_27 ?_
      obtain ⟨p28_r, hq28, hf⟩ := qb1_some hf
      refine k_VV O 31 rfl (zX5_standAt (l := xl X) (D := xD X) (cI := cI) (cZ := cZ) (cQ := cQ) (h_t := h_r) (h_w := h_w) hq28) (gV mlX9_266 mvX5_standAt izX5) rfl rfl rfl hdX5_standAt ⟨Nat.le_of_ble_eq_true rfl, Nat.le_of_ble_eq_true rfl⟩ rfl 2 rfl rfl rfl rfl (Nat.le_of_ble_eq_true rfl) ⟨Nat.zero_le _, Nat.zero_le _⟩ [2, 1] rfl rfl rfl ([nX9 cI cZ cQ h_t (h_w 0) r_b r_l r_H r_x r_T r_C r_d r_F (h_r 0) r_n u_t, nX8 cI cZ cQ h_w u_w, nX5 cI cZ cQ h_r (h_w 0) p28_r]) rfl dX9_paneCount_28 ?_
      refine r_ald_n O 32 rfl 0 rfl dX9_paneCount_31 ?_
      refine r_get (ref := RX9) (C := RX9) (T := TX9) (N := 13) O 35 rfl inBX9 0 9 rfl rfl rfl (by decide) flX9_67 rfl rfl dX9_paneCount_32 ?_
      refine r_ild_n O 36 rfl 3 rfl dX9_paneCount_35 ?_
      refine r_ild O 38 rfl 4 rfl dX9_paneCount_36 ?_
      refine r_ild O 40 rfl 5 rfl dX9_paneCount_38 ?_
      obtain ⟨p40_r, hq40, hf⟩ := qb1_some hf
      refine k_VV O 43 rfl (zX5_aimAtColumn (l := xl X) (D := xD X) (cI := cI) (cZ := cZ) (cQ := cQ) (h_t := h_r) (r_w := (h_w 0)) hq40) (gV mlX9_269 mvX5_aimAtColumn izX5) rfl rfl rfl hdX5_aimAtColumn ⟨Nat.le_of_ble_eq_true rfl, Nat.le_of_ble_eq_true rfl⟩ rfl 2 rfl rfl rfl rfl (Nat.le_of_ble_eq_true rfl) ⟨Nat.zero_le _, Nat.zero_le _⟩ [2] rfl rfl rfl ([nX9 cI cZ cQ h_t (h_w 0) r_b r_l r_H r_x r_T r_C r_d r_F (h_r 0) r_n u_t, nX8 cI cZ cQ h_w u_w, nX5 cI cZ cQ h_r (h_w 0) p40_r]) rfl dX9_paneCount_40 ?_
      refine r_ald_n O 44 rfl 0 rfl dX9_paneCount_43 ?_
      refine r_get (ref := RX9) (C := RX9) (T := TX9) (N := 13) O 47 rfl inBX9 0 9 rfl rfl rfl (by decide) flX9_67 rfl rfl dX9_paneCount_44 ?_
      obtain ⟨p47_r, hq47, hf⟩ := qb1_some hf
      refine k_VV O 50 rfl (zX5_findFirstHit (l := xl X) (D := xD X) (cI := cI) (cZ := cZ) (cQ := cQ) (h_t := h_r) (h_w := h_w) hq47) (gV mlX9_284 mvX5_findFirstHit izX5) rfl rfl rfl hdX5_findFirstHit ⟨Nat.le_of_ble_eq_true rfl, Nat.le_of_ble_eq_true rfl⟩ rfl 2 rfl rfl rfl rfl (Nat.le_of_ble_eq_true rfl) ⟨Nat.zero_le _, Nat.zero_le _⟩ [2, 1] rfl rfl rfl ([nX9 cI cZ cQ h_t (h_w 0) r_b r_l r_H r_x r_T r_C r_d r_F (h_r 0) r_n u_t, nX8 cI cZ cQ h_w u_w, nX5 cI cZ cQ h_r (h_w 0) p47_r]) rfl dX9_paneCount_47 ?_
      refine r_ald_n O 51 rfl 0 rfl dX9_paneCount_50 ?_
      refine r_get (ref := RX9) (C := RX9) (T := TX9) (N := 13) O 54 rfl inBX9 0 9 rfl rfl rfl (by decide) flX9_67 rfl rfl dX9_paneCount_51 ?_
      obtain ⟨x54, p54_r, hq54, hf⟩ := qb2_some hf
      refine k_VI O 57 rfl (zX5_countPanes (l := xl X) (D := xD X) (cI := cI) (cZ := cZ) (cQ := cQ) (h_t := h_r) (h_w := h_w) hq54) (gV mlX9_303 mvX5_countPanes izX5) rfl rfl rfl hdX5_countPanes ⟨Nat.le_of_ble_eq_true rfl, Nat.le_of_ble_eq_true rfl⟩ rfl 2 rfl rfl rfl rfl (Nat.le_of_ble_eq_true rfl) ⟨Nat.zero_le _, Nat.zero_le _⟩ [2, 1] rfl rfl rfl ([nX9 cI cZ cQ h_t (h_w 0) r_b r_l r_H r_x r_T r_C r_d r_F (h_r 0) r_n u_t, nX8 cI cZ cQ h_w u_w, nX5 cI cZ cQ h_r (h_w 0) p54_r]) rfl dX9_paneCount_54 ?_
      obtain ⟨g0, g1⟩ := qe2 hf
      exact r_iret2 O E g0 (by rw [g1]) dX9_paneCount_57
    · rw [if_neg hc16] at hf
      refine r_bi O 21 rfl (-2) (by decide) dX9_paneCount_19 ?_
      obtain ⟨g0, g1⟩ := qe2 hf
      exact r_iret2 O E g0 (by rw [g1]) dX9_paneCount_21
-- X9_seenColumns
def rmX9_seenColumns : Room := { frames := 3, cells := 0, slots := 0, locals := 69 }
set_option maxHeartbeats 4000000 in
set_option maxRecDepth 100000 in
theorem zX9_seenColumns {l : Launch} {D : va_G} {cI cZ cQ : ClassId} {h_t h_w h_r : Nat → Nat} {r_b r_l r_H r_x r_T r_C r_d r_F r_n : Nat} {u_t u_w u_r : Pk} {a1 : Int32} {a2 : Int32} {a3 : Int32} {a4 : Int32} {a5 : Int32} {r0 : Int32} {v_r : Pk} (hf : fX9_seenColumns u_t u_w u_r a1 a2 a3 a4 a5 = some (r0, v_r)) : MI l yX9_seenColumns wsX9_seenColumns rmX9_seenColumns D (TY cI cZ cQ) [.ref (h_t 0), .int a1, .int a2, .int a3, .int a4, .int a5] [nX9 cI cZ cQ h_t (h_w 0) r_b r_l r_H r_x r_T r_C r_d r_F (h_r 0) r_n u_t, nX8 cI cZ cQ h_w u_w, nX5 cI cZ cQ h_r (h_w 0) u_r] r0 [nX9 cI cZ cQ h_t (h_w 0) r_b r_l r_H r_x r_T r_C r_d r_F (h_r 0) r_n u_t, nX8 cI cZ cQ h_w u_w, nX5 cI cZ cQ h_r (h_w 0) v_r] := by
  refine MI.of (own := RX9) (by decide +kernel) rfl rfl (Nat.le_of_ble_eq_true rfl) (lv0 := [(0, .ref (h_t 0)), (1, .int a1), (2, .int a2), (3, .int a3), (4, .int a4), (5, .int a5)]) rfl ?_
  intro X O E
  have B84 : ∀ (rec43 : Pk → Int32 → Int32 → Int32 → Int32 → Int32 → Option (Int32 × Pk)), (∀ (w_r : Pk) (y3 : Int32) (y4 : Int32) (y5 : Int32) (y6 : Int32) (y7 : Int32), rec43 w_r y3 y4 y5 y6 y7 = some (r0, v_r) → BK X 8 0 0 43 ([nX9 cI cZ cQ h_t (h_w 0) r_b r_l r_H r_x r_T r_C r_d r_F (h_r 0) r_n u_t, nX8 cI cZ cQ h_w u_w, nX5 cI cZ cQ h_r (h_w 0) w_r]) [(0, .ref (h_t 0)), (3, .int y3), (4, .int y4), (5, .int y5), (6, .int y6), (7, .int y7)] []) → ∀ (w_r : Pk) (y3 : Int32) (y4 : Int32) (y5 : Int32) (y6 : Int32) (y7 : Int32), fX9_seenColumns_b84 rec43 u_t u_w w_r y3 y4 y5 y6 y7 = some (r0, v_r) → BK X 8 0 0 84 ([nX9 cI cZ cQ h_t (h_w 0) r_b r_l r_H r_x r_T r_C r_d r_F (h_r 0) r_n u_t, nX8 cI cZ cQ h_w u_w, nX5 cI cZ cQ h_r (h_w 0) w_r]) [(0, .ref (h_t 0)), (3, .int y3), (4, .int y4), (5, .int y5), (6, .int y6), (7, .int y7)] [] := by
    intro rec43 hrec43 w_r y3 y4 y5 y6 y7 hf
    unfold fX9_seenColumns_b84 at hf
    obtain ⟨x84, ex84, hf⟩ := qn_some hf
    refine r_iinc O 87 rfl x84 5 rfl (by rw [ex84]; rfl) [(7, .int x84), (0, .ref (h_t 0)), (3, .int y3), (4, .int y4), (5, .int y5), (6, .int y6)] dX9_seenColumns_84 (by decide) rfl ?_
    refine r_goto O 43 dX9_seenColumns_87 (by decide) ?_
    refine r_lv [1, 2, 3, 4, 5, 0] rfl ?_
    exact hrec43 _ _ _ _ _ _ hf
  have B43 : ∀ n : Nat, ∀ (w_r : Pk) (y3 : Int32) (y4 : Int32) (y5 : Int32) (y6 : Int32) (y7 : Int32), fX9_seenColumns_b43 u_t u_w n w_r y3 y4 y5 y6 y7 = some (r0, v_r) → BK X 8 0 0 43 ([nX9 cI cZ cQ h_t (h_w 0) r_b r_l r_H r_x r_T r_C r_d r_F (h_r 0) r_n u_t, nX8 cI cZ cQ h_w u_w, nX5 cI cZ cQ h_r (h_w 0) w_r]) [(0, .ref (h_t 0)), (3, .int y3), (4, .int y4), (5, .int y5), (6, .int y6), (7, .int y7)] [] := by
    intro n
    induction n with
    | zero => exact fun _ _ _ _ _ _ hf => qno hf
    | succ n hrec43 =>
      intro w_r y3 y4 y5 y6 y7 hf
      have hf : fX9_seenColumns_b43_s (fX9_seenColumns_b43 u_t u_w n) u_t u_w w_r y3 y4 y5 y6 y7 = some (r0, v_r) := hf
      generalize fX9_seenColumns_b43 u_t u_w n = rec43 at hf hrec43
      unfold fX9_seenColumns_b43_s at hf
      refine r_ild O 45 rfl 5 rfl dX9_seenColumns_43 ?_
      refine r_bi O 47 rfl 32 (by decide) dX9_seenColumns_45 ?_
      refine r_icmp_ge O 50 rfl 90 dX9_seenColumns_47 (by decide) (fun hc47 => ?_) (fun hc47 => ?_)
      · rw [if_pos hc47] at hf
        refine r_ild O 92 rfl 4 rfl dX9_seenColumns_90 ?_
        obtain ⟨g0, g1⟩ := qe2 hf
        exact r_iret2 O E g0 (by rw [g1]) dX9_seenColumns_92
      · rw [if_neg hc47] at hf
        refine r_ald_n O 51 rfl 0 rfl dX9_seenColumns_50 ?_
        refine r_get (ref := RX9) (C := RX9) (T := TX9) (N := 13) O 54 rfl inBX9 0 9 rfl rfl rfl (by decide) flX9_67 rfl rfl dX9_seenColumns_51 ?_
        refine r_ild_n O 55 rfl 1 rfl dX9_seenColumns_54 ?_
        refine r_ild O 57 rfl 2 rfl dX9_seenColumns_55 ?_
        refine r_ild O 59 rfl 5 rfl dX9_seenColumns_57 ?_
        obtain ⟨p59_r, hq59, hf⟩ := qb1_some hf
        refine k_VV O 62 rfl (zX5_aimAtColumn (l := xl X) (D := xD X) (cI := cI) (cZ := cZ) (cQ := cQ) (h_t := h_r) (r_w := (h_w 0)) hq59) (gV mlX9_269 mvX5_aimAtColumn izX5) rfl rfl rfl hdX5_aimAtColumn ⟨Nat.le_of_ble_eq_true rfl, Nat.le_of_ble_eq_true rfl⟩ rfl 2 rfl rfl rfl rfl (Nat.le_of_ble_eq_true rfl) ⟨Nat.zero_le _, Nat.zero_le _⟩ [2] rfl rfl rfl ([nX9 cI cZ cQ h_t (h_w 0) r_b r_l r_H r_x r_T r_C r_d r_F (h_r 0) r_n u_t, nX8 cI cZ cQ h_w u_w, nX5 cI cZ cQ h_r (h_w 0) p59_r]) rfl dX9_seenColumns_59 ?_
        refine r_ald_n O 63 rfl 0 rfl dX9_seenColumns_62 ?_
        refine r_get (ref := RX9) (C := RX9) (T := TX9) (N := 13) O 66 rfl inBX9 0 9 rfl rfl rfl (by decide) flX9_67 rfl rfl dX9_seenColumns_63 ?_
        obtain ⟨p66_r, hq66, hf⟩ := qb1_some hf
        refine k_VV O 69 rfl (zX5_findFirstHit (l := xl X) (D := xD X) (cI := cI) (cZ := cZ) (cQ := cQ) (h_t := h_r) (h_w := h_w) hq66) (gV mlX9_284 mvX5_findFirstHit izX5) rfl rfl rfl hdX5_findFirstHit ⟨Nat.le_of_ble_eq_true rfl, Nat.le_of_ble_eq_true rfl⟩ rfl 2 rfl rfl rfl rfl (Nat.le_of_ble_eq_true rfl) ⟨Nat.zero_le _, Nat.zero_le _⟩ [2, 1] rfl rfl rfl ([nX9 cI cZ cQ h_t (h_w 0) r_b r_l r_H r_x r_T r_C r_d r_F (h_r 0) r_n u_t, nX8 cI cZ cQ h_w u_w, nX5 cI cZ cQ h_r (h_w 0) p66_r]) rfl dX9_seenColumns_66 ?_
        refine r_ald_n O 70 rfl 0 rfl dX9_seenColumns_69 ?_
        refine r_get (ref := RX9) (C := RX9) (T := TX9) (N := 13) O 73 rfl inBX9 0 9 rfl rfl rfl (by decide) flX9_67 rfl rfl dX9_seenColumns_70 ?_
        obtain ⟨x73, hq73, hf⟩ := qb1_some hf
        refine k_VI O 76 rfl (zX5_firstHitWall (l := xl X) (D := xD X) (cI := cI) (cZ := cZ) (cQ := cQ) (h_t := h_r) (r_w := (h_w 0)) hq73) (gV mlX9_290 mvX5_firstHitWall izX5) rfl rfl rfl hdX5_firstHitWall ⟨Nat.le_of_ble_eq_true rfl, Nat.le_of_ble_eq_true rfl⟩ rfl 2 rfl rfl rfl rfl (Nat.le_of_ble_eq_true rfl) ⟨Nat.zero_le _, Nat.zero_le _⟩ [2] rfl rfl rfl ([nX9 cI cZ cQ h_t (h_w 0) r_b r_l r_H r_x r_T r_C r_d r_F (h_r 0) r_n u_t, nX8 cI cZ cQ h_w u_w, nX5 cI cZ cQ h_r (h_w 0) p66_r]) rfl dX9_seenColumns_73 ?_
        refine r_ild O 78 rfl 3 rfl dX9_seenColumns_76 ?_
        refine r_icmp_ne O 81 rfl 84 dX9_seenColumns_78 (by decide) (fun hc78 => ?_) (fun hc78 => ?_)
        · rw [if_neg hc78] at hf
          exact B84 rec43 hrec43 _ _ _ _ _ _ hf
        · rw [if_pos hc78] at hf
          obtain ⟨x81, ex81, hf⟩ := qn_some hf
          refine r_iinc O 84 rfl x81 4 rfl (by rw [ex81]; rfl) [(6, .int x81), (0, .ref (h_t 0)), (3, .int y3), (4, .int y4), (5, .int y5), (7, .int y7)] dX9_seenColumns_81 (by decide) rfl ?_
          refine r_lv [1, 2, 3, 4, 0, 5] rfl ?_
          exact B84 rec43 hrec43 _ _ _ _ _ _ hf
  unfold fX9_seenColumns at hf
  refine r_ild_n O 1 rfl 1 rfl dX9_seenColumns_0 ?_
  refine r_ild_n O 2 rfl 2 rfl dX9_seenColumns_1 ?_
  refine r_ild_n O 3 rfl 3 rfl dX9_seenColumns_2 ?_
  refine r_ild O 5 rfl 4 rfl dX9_seenColumns_3 ?_
  obtain ⟨x5, hq5, hf⟩ := qb1_some hf
  refine k_SZ O 8 rfl (zX9_isBadPicture (l := xl X) (D := xD X) (cI := cI) (cZ := cZ) (cQ := cQ) hq5) (gS mlX9_262 mvX9_isBadPicture izX9) rfl rfl rfl hdX9_isBadPicture ⟨Nat.le_of_ble_eq_true rfl, Nat.le_of_ble_eq_true rfl⟩ rfl rfl (Nat.le_of_ble_eq_true rfl) ⟨Nat.zero_le _, Nat.zero_le _⟩ [] rfl rfl rfl ([nX9 cI cZ cQ h_t (h_w 0) r_b r_l r_H r_x r_T r_C r_d r_F (h_r 0) r_n u_t, nX8 cI cZ cQ h_w u_w, nX5 cI cZ cQ h_r (h_w 0) u_r]) rfl dX9_seenColumns_5 (fun hz5 => ?_)
  refine r_if_eq O 11 rfl 14 dX9_seenColumns_8 (by decide) (fun hc8 => ?_) (fun hc8 => ?_)
  · rw [if_pos hc8] at hf
    refine r_ald_n O 15 rfl 0 rfl dX9_seenColumns_14 ?_
    refine r_get (ref := RX9) (C := RX9) (T := TX9) (N := 13) O 18 rfl inBX9 0 0 rfl rfl rfl (by decide) flX9_12 rfl rfl dX9_seenColumns_15 ?_
    refine r_ild O 20 rfl 5 rfl dX9_seenColumns_18 ?_
    obtain ⟨x20, hq20, hf⟩ := qb1_some hf
    refine k_VZ O 23 rfl (zX8_exists (l := xl X) (D := xD X) (cI := cI) (cZ := cZ) (cQ := cQ) (h_t := h_w) hq20) (gV mlX9_105 mvX8_exists izX8) rfl rfl rfl hdX8_exists ⟨Nat.le_of_ble_eq_true rfl, Nat.le_of_ble_eq_true rfl⟩ rfl 1 rfl rfl rfl rfl (Nat.le_of_ble_eq_true rfl) ⟨Nat.zero_le _, Nat.zero_le _⟩ [1] rfl rfl rfl ([nX9 cI cZ cQ h_t (h_w 0) r_b r_l r_H r_x r_T r_C r_d r_F (h_r 0) r_n u_t, nX8 cI cZ cQ h_w u_w, nX5 cI cZ cQ h_r (h_w 0) u_r]) rfl dX9_seenColumns_20 (fun hz20 => ?_)
    refine r_if_ne O 26 rfl 28 dX9_seenColumns_23 (by decide) (fun hc23 => ?_) (fun hc23 => ?_)
    · rw [if_neg hc23] at hf
      refine r_ald_n O 29 rfl 0 rfl dX9_seenColumns_28 ?_
      refine r_get (ref := RX9) (C := RX9) (T := TX9) (N := 13) O 32 rfl inBX9 0 9 rfl rfl rfl (by decide) flX9_67 rfl rfl dX9_seenColumns_29 ?_
      refine r_ild_n O 33 rfl 1 rfl dX9_seenColumns_32 ?_
      refine r_ild_n O 34 rfl 2 rfl dX9_seenColumns_33 ?_
      obtain ⟨p34_r, hq34, hf⟩ := qb1_some hf
      refine k_VV O 37 rfl (zX5_standAt (l := xl X) (D := xD X) (cI := cI) (cZ := cZ) (cQ := cQ) (h_t := h_r) (h_w := h_w) hq34) (gV mlX9_266 mvX5_standAt izX5) rfl rfl rfl hdX5_standAt ⟨Nat.le_of_ble_eq_true rfl, Nat.le_of_ble_eq_true rfl⟩ rfl 2 rfl rfl rfl rfl (Nat.le_of_ble_eq_true rfl) ⟨Nat.zero_le _, Nat.zero_le _⟩ [2, 1] rfl rfl rfl ([nX9 cI cZ cQ h_t (h_w 0) r_b r_l r_H r_x r_T r_C r_d r_F (h_r 0) r_n u_t, nX8 cI cZ cQ h_w u_w, nX5 cI cZ cQ h_r (h_w 0) p34_r]) rfl dX9_seenColumns_34 ?_
      refine r_ic O 38 rfl 0 (by decide) dX9_seenColumns_37 ?_
      refine r_ist O 40 rfl [(6, .int 0), (0, .ref (h_t 0)), (1, .int a1), (2, .int a2), (3, .int a3), (4, .int a4), (5, .int a5)] dX9_seenColumns_38 (by decide) rfl ?_
      refine r_ic O 41 rfl 0 (by decide) dX9_seenColumns_40 ?_
      refine r_ist O 43 rfl [(7, .int 0), (6, .int 0), (0, .ref (h_t 0)), (1, .int a1), (2, .int a2), (3, .int a3), (4, .int a4), (5, .int a5)] dX9_seenColumns_41 (by decide) rfl ?_
      refine r_lv [2, 5, 6, 7, 1, 0] rfl ?_
      exact B43 FU _ _ _ _ _ _ hf
    · rw [if_pos hc23] at hf
      refine r_ic O 27 rfl (-1) (by decide) dX9_seenColumns_26 ?_
      obtain ⟨g0, g1⟩ := qe2 hf
      exact r_iret2 O E g0 (by rw [g1]) dX9_seenColumns_27
  · rw [if_neg hc8] at hf
    refine r_bi O 13 rfl (-2) (by decide) dX9_seenColumns_11 ?_
    obtain ⟨g0, g1⟩ := qe2 hf
    exact r_iret2 O E g0 (by rw [g1]) dX9_seenColumns_13
-- X9_sees
def rmX9_sees : Room := { frames := 3, cells := 0, slots := 0, locals := 69 }
set_option maxHeartbeats 4000000 in
set_option maxRecDepth 100000 in
theorem zX9_sees {l : Launch} {D : va_G} {cI cZ cQ : ClassId} {h_t h_w h_r : Nat → Nat} {r_b r_l r_H r_x r_T r_C r_d r_F r_n : Nat} {u_t u_w u_r : Pk} {a1 : Int32} {a2 : Int32} {r0 : Int32} {v_r : Pk} (hf : fX9_sees u_t u_w u_r a1 a2 = some (r0, v_r)) : MZ l yX9_sees wsX9_sees rmX9_sees D (TY cI cZ cQ) [.ref (h_t 0), .int a1, .int a2] [nX9 cI cZ cQ h_t (h_w 0) r_b r_l r_H r_x r_T r_C r_d r_F (h_r 0) r_n u_t, nX8 cI cZ cQ h_w u_w, nX5 cI cZ cQ h_r (h_w 0) u_r] r0 [nX9 cI cZ cQ h_t (h_w 0) r_b r_l r_H r_x r_T r_C r_d r_F (h_r 0) r_n u_t, nX8 cI cZ cQ h_w u_w, nX5 cI cZ cQ h_r (h_w 0) v_r] := by
  refine MZ.of (own := RX9) (by decide +kernel) rfl rfl (Nat.le_of_ble_eq_true rfl) (lv0 := [(0, .ref (h_t 0)), (1, .int a1), (2, .int a2)]) rfl ?_
  intro X O E
  have B10 : ∀ (w_r : Pk) (y1 : Int32) (y2 : Int32), fX9_sees_b10 u_t u_w w_r y1 y2 = some (r0, v_r) → BK X 3 0 0 10 ([nX9 cI cZ cQ h_t (h_w 0) r_b r_l r_H r_x r_T r_C r_d r_F (h_r 0) r_n u_t, nX8 cI cZ cQ h_w u_w, nX5 cI cZ cQ h_r (h_w 0) w_r]) [(0, .ref (h_t 0)), (1, .int y1), (2, .int y2)] [] := by
    intro w_r y1 y2 hf
    unfold fX9_sees_b10 at hf
    refine r_ald_n O 11 rfl 0 rfl dX9_sees_10 ?_
    refine r_get (ref := RX9) (C := RX9) (T := TX9) (N := 13) O 14 rfl inBX9 0 9 rfl rfl rfl (by decide) flX9_67 rfl rfl dX9_sees_11 ?_
    refine r_ild_n O 15 rfl 1 rfl dX9_sees_14 ?_
    refine r_ild_n O 16 rfl 2 rfl dX9_sees_15 ?_
    obtain ⟨p16_r, hq16, hf⟩ := qb1_some hf
    refine k_VV O 19 rfl (zX5_aim (l := xl X) (D := xD X) (cI := cI) (cZ := cZ) (cQ := cQ) (h_t := h_r) (r_w := (h_w 0)) hq16) (gV mlX9_281 mvX5_aim izX5) rfl rfl rfl hdX5_aim ⟨Nat.le_of_ble_eq_true rfl, Nat.le_of_ble_eq_true rfl⟩ rfl 2 rfl rfl rfl rfl (Nat.le_of_ble_eq_true rfl) ⟨Nat.zero_le _, Nat.zero_le _⟩ [2] rfl rfl rfl ([nX9 cI cZ cQ h_t (h_w 0) r_b r_l r_H r_x r_T r_C r_d r_F (h_r 0) r_n u_t, nX8 cI cZ cQ h_w u_w, nX5 cI cZ cQ h_r (h_w 0) p16_r]) rfl dX9_sees_16 ?_
    refine r_ald_n O 20 rfl 0 rfl dX9_sees_19 ?_
    refine r_get (ref := RX9) (C := RX9) (T := TX9) (N := 13) O 23 rfl inBX9 0 9 rfl rfl rfl (by decide) flX9_67 rfl rfl dX9_sees_20 ?_
    obtain ⟨x23, p23_r, hq23, hf⟩ := qb2_some hf
    refine k_VZ O 26 rfl (zX5_isBlocked (l := xl X) (D := xD X) (cI := cI) (cZ := cZ) (cQ := cQ) (h_t := h_r) (h_w := h_w) hq23) (gV mlX9_387 mvX5_isBlocked izX5) rfl rfl rfl hdX5_isBlocked ⟨Nat.le_of_ble_eq_true rfl, Nat.le_of_ble_eq_true rfl⟩ rfl 2 rfl rfl rfl rfl (Nat.le_of_ble_eq_true rfl) ⟨Nat.zero_le _, Nat.zero_le _⟩ [2, 1] rfl rfl rfl ([nX9 cI cZ cQ h_t (h_w 0) r_b r_l r_H r_x r_T r_C r_d r_F (h_r 0) r_n u_t, nX8 cI cZ cQ h_w u_w, nX5 cI cZ cQ h_r (h_w 0) p23_r]) rfl dX9_sees_23 (fun hz23 => ?_)
    refine r_if_ne O 29 rfl 33 dX9_sees_26 (by decide) (fun hc26 => ?_) (fun hc26 => ?_)
    · rw [if_neg hc26] at hf
      refine r_ic O 34 rfl 0 (by decide) dX9_sees_33 ?_
      obtain ⟨g0, g1⟩ := qe2 hf
      exact r_zret2 O E g0 (by rw [g1]) rfl dX9_sees_34
    · rw [if_pos hc26] at hf
      refine r_ic O 30 rfl 1 (by decide) dX9_sees_29 ?_
      refine r_goto O 34 dX9_sees_30 (by decide) ?_
      obtain ⟨g0, g1⟩ := qe2 hf
      exact r_zret2 O E g0 (by rw [g1]) rfl dX9_sees_34
  unfold fX9_sees at hf
  refine r_ild_n O 1 rfl 1 rfl dX9_sees_0 ?_
  refine r_if_ne O 4 rfl 10 dX9_sees_1 (by decide) (fun hc1 => ?_) (fun hc1 => ?_)
  · rw [if_neg hc1] at hf
    exact B10 _ _ _ hf
  · rw [if_pos hc1] at hf
    refine r_ild_n O 5 rfl 2 rfl dX9_sees_4 ?_
    refine r_if_ne O 8 rfl 10 dX9_sees_5 (by decide) (fun hc5 => ?_) (fun hc5 => ?_)
    · rw [if_neg hc5] at hf
      exact B10 _ _ _ hf
    · rw [if_pos hc5] at hf
      refine r_ic O 9 rfl 0 (by decide) dX9_sees_8 ?_
      obtain ⟨g0, g1⟩ := qe2 hf
      exact r_zret2 O E g0 (by rw [g1]) rfl dX9_sees_9
-- X9_countSeenFrom
def rmX9_countSeenFrom : Room := { frames := 4, cells := 0, slots := 0, locals := 91 }
set_option maxHeartbeats 4000000 in
set_option maxRecDepth 100000 in
theorem zX9_countSeenFrom {l : Launch} {D : va_G} {cI cZ cQ : ClassId} {h_t h_w h_r : Nat → Nat} {r_b r_l r_H r_x r_T r_C r_d r_F r_n : Nat} {u_t u_w u_r : Pk} {a1 : Int32} {a2 : Int32} {r0 : Int32} {v_r : Pk} (hf : fX9_countSeenFrom u_t u_w u_r a1 a2 = some (r0, v_r)) : MI l yX9_countSeenFrom wsX9_countSeenFrom rmX9_countSeenFrom D (TY cI cZ cQ) [.ref (h_t 0), .int a1, .int a2] [nX9 cI cZ cQ h_t (h_w 0) r_b r_l r_H r_x r_T r_C r_d r_F (h_r 0) r_n u_t, nX8 cI cZ cQ h_w u_w, nX5 cI cZ cQ h_r (h_w 0) u_r] r0 [nX9 cI cZ cQ h_t (h_w 0) r_b r_l r_H r_x r_T r_C r_d r_F (h_r 0) r_n u_t, nX8 cI cZ cQ h_w u_w, nX5 cI cZ cQ h_r (h_w 0) v_r] := by
  refine MI.of (own := RX9) (by decide +kernel) rfl rfl (Nat.le_of_ble_eq_true rfl) (lv0 := [(0, .ref (h_t 0)), (1, .int a1), (2, .int a2)]) rfl ?_
  intro X O E
  have B55 : ∀ (rec14 : Pk → Int32 → Int32 → Int32 → Int32 → Option (Int32 × Pk)), (∀ (w_r : Pk) (y1 : Int32) (y2 : Int32) (y3 : Int32) (y4 : Int32), rec14 w_r y1 y2 y3 y4 = some (r0, v_r) → BK X 6 0 0 14 ([nX9 cI cZ cQ h_t (h_w 0) r_b r_l r_H r_x r_T r_C r_d r_F (h_r 0) r_n u_t, nX8 cI cZ cQ h_w u_w, nX5 cI cZ cQ h_r (h_w 0) w_r]) [(0, .ref (h_t 0)), (1, .int y1), (2, .int y2), (3, .int y3), (4, .int y4)] []) → ∀ (rec24 : Pk → Int32 → Int32 → Int32 → Int32 → Int32 → Option (Int32 × Pk)), (∀ (w_r : Pk) (y1 : Int32) (y2 : Int32) (y3 : Int32) (y4 : Int32) (y5 : Int32), rec24 w_r y1 y2 y3 y4 y5 = some (r0, v_r) → BK X 6 0 0 24 ([nX9 cI cZ cQ h_t (h_w 0) r_b r_l r_H r_x r_T r_C r_d r_F (h_r 0) r_n u_t, nX8 cI cZ cQ h_w u_w, nX5 cI cZ cQ h_r (h_w 0) w_r]) [(0, .ref (h_t 0)), (1, .int y1), (2, .int y2), (3, .int y3), (4, .int y4), (5, .int y5)] []) → ∀ (w_r : Pk) (y1 : Int32) (y2 : Int32) (y3 : Int32) (y4 : Int32) (y5 : Int32), fX9_countSeenFrom_b55 rec14 rec24 u_t u_w w_r y1 y2 y3 y4 y5 = some (r0, v_r) → BK X 6 0 0 55 ([nX9 cI cZ cQ h_t (h_w 0) r_b r_l r_H r_x r_T r_C r_d r_F (h_r 0) r_n u_t, nX8 cI cZ cQ h_w u_w, nX5 cI cZ cQ h_r (h_w 0) w_r]) [(0, .ref (h_t 0)), (1, .int y1), (2, .int y2), (3, .int y3), (4, .int y4), (5, .int y5)] [] := by
    intro rec14 hrec14 rec24 hrec24 w_r y1 y2 y3 y4 y5 hf
    unfold fX9_countSeenFrom_b55 at hf
    obtain ⟨x55, ex55, hf⟩ := qn_some hf
    refine r_iinc O 58 rfl x55 5 rfl (by rw [ex55]; rfl) [(5, .int x55), (0, .ref (h_t 0)), (1, .int y1), (2, .int y2), (3, .int y3), (4, .int y4)] dX9_countSeenFrom_55 (by decide) rfl ?_
    refine r_goto O 24 dX9_countSeenFrom_58 (by decide) ?_
    refine r_lv [1, 2, 3, 4, 5, 0] rfl ?_
    exact hrec24 _ _ _ _ _ _ hf
  have B24 : ∀ (rec14 : Pk → Int32 → Int32 → Int32 → Int32 → Option (Int32 × Pk)), (∀ (w_r : Pk) (y1 : Int32) (y2 : Int32) (y3 : Int32) (y4 : Int32), rec14 w_r y1 y2 y3 y4 = some (r0, v_r) → BK X 6 0 0 14 ([nX9 cI cZ cQ h_t (h_w 0) r_b r_l r_H r_x r_T r_C r_d r_F (h_r 0) r_n u_t, nX8 cI cZ cQ h_w u_w, nX5 cI cZ cQ h_r (h_w 0) w_r]) [(0, .ref (h_t 0)), (1, .int y1), (2, .int y2), (3, .int y3), (4, .int y4)] []) → ∀ n : Nat, ∀ (w_r : Pk) (y1 : Int32) (y2 : Int32) (y3 : Int32) (y4 : Int32) (y5 : Int32), fX9_countSeenFrom_b24 rec14 u_t u_w n w_r y1 y2 y3 y4 y5 = some (r0, v_r) → BK X 6 0 0 24 ([nX9 cI cZ cQ h_t (h_w 0) r_b r_l r_H r_x r_T r_C r_d r_F (h_r 0) r_n u_t, nX8 cI cZ cQ h_w u_w, nX5 cI cZ cQ h_r (h_w 0) w_r]) [(0, .ref (h_t 0)), (1, .int y1), (2, .int y2), (3, .int y3), (4, .int y4), (5, .int y5)] [] := by
    intro rec14 hrec14
    intro n
    induction n with
    | zero => exact fun _ _ _ _ _ _ hf => qno hf
    | succ n hrec24 =>
      intro w_r y1 y2 y3 y4 y5 hf
      have hf : fX9_countSeenFrom_b24_s rec14 (fX9_countSeenFrom_b24 rec14 u_t u_w n) u_t u_w w_r y1 y2 y3 y4 y5 = some (r0, v_r) := hf
      generalize fX9_countSeenFrom_b24 rec14 u_t u_w n = rec24 at hf hrec24
      unfold fX9_countSeenFrom_b24_s at hf
      refine r_ild O 26 rfl 5 rfl dX9_countSeenFrom_24 ?_
      refine r_bi O 28 rfl 8 (by decide) dX9_countSeenFrom_26 ?_
      refine r_icmp_ge O 31 rfl 61 dX9_countSeenFrom_28 (by decide) (fun hc28 => ?_) (fun hc28 => ?_)
      · rw [if_pos hc28] at hf
        obtain ⟨x61, ex61, hf⟩ := qn_some hf
        refine r_iinc O 64 rfl x61 4 rfl (by rw [ex61]; rfl) [(4, .int x61), (0, .ref (h_t 0)), (1, .int y1), (2, .int y2), (3, .int y3), (5, .int y5)] dX9_countSeenFrom_61 (by decide) rfl ?_
        refine r_goto O 14 dX9_countSeenFrom_64 (by decide) ?_
        refine r_lv [1, 2, 3, 4, 0] rfl ?_
        exact hrec14 _ _ _ _ _ hf
      · rw [if_neg hc28] at hf
        refine r_ald_n O 32 rfl 0 rfl dX9_countSeenFrom_31 ?_
        refine r_ild O 34 rfl 4 rfl dX9_countSeenFrom_32 ?_
        refine r_bi O 36 rfl 8 (by decide) dX9_countSeenFrom_34 ?_
        refine r_imul O 37 rfl dX9_countSeenFrom_36 ?_
        refine r_ild_n O 38 rfl 1 rfl dX9_countSeenFrom_37 ?_
        refine r_isub O 39 rfl dX9_countSeenFrom_38 ?_
        refine r_ild O 41 rfl 5 rfl dX9_countSeenFrom_39 ?_
        refine r_bi O 43 rfl 8 (by decide) dX9_countSeenFrom_41 ?_
        refine r_imul O 44 rfl dX9_countSeenFrom_43 ?_
        refine r_ild_n O 45 rfl 2 rfl dX9_countSeenFrom_44 ?_
        refine r_isub O 46 rfl dX9_countSeenFrom_45 ?_
        obtain ⟨x46, p46_r, hq46, hf⟩ := qb2_some hf
        refine k_VZ O 49 rfl (zX9_sees (l := xl X) (D := xD X) (cI := cI) (cZ := cZ) (cQ := cQ) (h_t := h_t) (h_w := h_w) (r_b := r_b) (r_l := r_l) (r_H := r_H) (r_x := r_x) (r_T := r_T) (r_C := r_C) (r_d := r_d) (r_F := r_F) (h_r := h_r) (r_n := r_n) hq46) (gV mlX9_384 mvX9_sees izX9) rfl rfl rfl hdX9_sees ⟨Nat.le_of_ble_eq_true rfl, Nat.le_of_ble_eq_true rfl⟩ rfl 0 rfl rfl rfl rfl (Nat.le_of_ble_eq_true rfl) ⟨Nat.zero_le _, Nat.zero_le _⟩ [0, 1, 2] rfl rfl rfl ([nX9 cI cZ cQ h_t (h_w 0) r_b r_l r_H r_x r_T r_C r_d r_F (h_r 0) r_n u_t, nX8 cI cZ cQ h_w u_w, nX5 cI cZ cQ h_r (h_w 0) p46_r]) rfl dX9_countSeenFrom_46 (fun hz46 => ?_)
        refine r_if_eq O 52 rfl 55 dX9_countSeenFrom_49 (by decide) (fun hc49 => ?_) (fun hc49 => ?_)
        · rw [if_pos hc49] at hf
          exact B55 rec14 hrec14 rec24 hrec24 _ _ _ _ _ _ hf
        · rw [if_neg hc49] at hf
          obtain ⟨x52, ex52, hf⟩ := qn_some hf
          refine r_iinc O 55 rfl x52 3 rfl (by rw [ex52]; rfl) [(3, .int x52), (0, .ref (h_t 0)), (1, .int y1), (2, .int y2), (4, .int y4), (5, .int y5)] dX9_countSeenFrom_52 (by decide) rfl ?_
          refine r_lv [1, 2, 3, 0, 4, 5] rfl ?_
          exact B55 rec14 hrec14 rec24 hrec24 _ _ _ _ _ _ hf
  have B14 : ∀ n : Nat, ∀ (w_r : Pk) (y1 : Int32) (y2 : Int32) (y3 : Int32) (y4 : Int32), fX9_countSeenFrom_b14 u_t u_w n w_r y1 y2 y3 y4 = some (r0, v_r) → BK X 6 0 0 14 ([nX9 cI cZ cQ h_t (h_w 0) r_b r_l r_H r_x r_T r_C r_d r_F (h_r 0) r_n u_t, nX8 cI cZ cQ h_w u_w, nX5 cI cZ cQ h_r (h_w 0) w_r]) [(0, .ref (h_t 0)), (1, .int y1), (2, .int y2), (3, .int y3), (4, .int y4)] [] := by
    intro n
    induction n with
    | zero => exact fun _ _ _ _ _ hf => qno hf
    | succ n hrec14 =>
      intro w_r y1 y2 y3 y4 hf
      have hf : fX9_countSeenFrom_b14_s (fX9_countSeenFrom_b14 u_t u_w n) u_t u_w w_r y1 y2 y3 y4 = some (r0, v_r) := hf
      generalize fX9_countSeenFrom_b14 u_t u_w n = rec14 at hf hrec14
      unfold fX9_countSeenFrom_b14_s at hf
      refine r_ild O 16 rfl 4 rfl dX9_countSeenFrom_14 ?_
      refine r_bi O 18 rfl 8 (by decide) dX9_countSeenFrom_16 ?_
      refine r_icmp_ge O 21 rfl 67 dX9_countSeenFrom_18 (by decide) (fun hc18 => ?_) (fun hc18 => ?_)
      · rw [if_pos hc18] at hf
        refine r_ild_n O 68 rfl 3 rfl dX9_countSeenFrom_67 ?_
        obtain ⟨g0, g1⟩ := qe2 hf
        exact r_iret2 O E g0 (by rw [g1]) dX9_countSeenFrom_68
      · rw [if_neg hc18] at hf
        refine r_ic O 22 rfl 0 (by decide) dX9_countSeenFrom_21 ?_
        refine r_ist O 24 rfl [(5, .int 0), (0, .ref (h_t 0)), (1, .int y1), (2, .int y2), (3, .int y3), (4, .int y4)] dX9_countSeenFrom_22 (by decide) rfl ?_
        refine r_lv [1, 2, 3, 4, 5, 0] rfl ?_
        exact B24 rec14 hrec14 FU _ _ _ _ _ _ hf
  unfold fX9_countSeenFrom at hf
  refine r_ald_n O 1 rfl 0 rfl dX9_countSeenFrom_0 ?_
  refine r_get (ref := RX9) (C := RX9) (T := TX9) (N := 13) O 4 rfl inBX9 0 9 rfl rfl rfl (by decide) flX9_67 rfl rfl dX9_countSeenFrom_1 ?_
  refine r_ild_n O 5 rfl 1 rfl dX9_countSeenFrom_4 ?_
  refine r_ild_n O 6 rfl 2 rfl dX9_countSeenFrom_5 ?_
  obtain ⟨p6_r, hq6, hf⟩ := qb1_some hf
  refine k_VV O 9 rfl (zX5_standAt (l := xl X) (D := xD X) (cI := cI) (cZ := cZ) (cQ := cQ) (h_t := h_r) (h_w := h_w) hq6) (gV mlX9_266 mvX5_standAt izX5) rfl rfl rfl hdX5_standAt ⟨Nat.le_of_ble_eq_true rfl, Nat.le_of_ble_eq_true rfl⟩ rfl 2 rfl rfl rfl rfl (Nat.le_of_ble_eq_true rfl) ⟨Nat.zero_le _, Nat.zero_le _⟩ [2, 1] rfl rfl rfl ([nX9 cI cZ cQ h_t (h_w 0) r_b r_l r_H r_x r_T r_C r_d r_F (h_r 0) r_n u_t, nX8 cI cZ cQ h_w u_w, nX5 cI cZ cQ h_r (h_w 0) p6_r]) rfl dX9_countSeenFrom_6 ?_
  refine r_ic O 10 rfl 0 (by decide) dX9_countSeenFrom_9 ?_
  refine r_ist_n O 11 rfl rfl [(3, .int 0), (0, .ref (h_t 0)), (1, .int a1), (2, .int a2)] dX9_countSeenFrom_10 (by decide) rfl ?_
  refine r_ic O 12 rfl 0 (by decide) dX9_countSeenFrom_11 ?_
  refine r_ist O 14 rfl [(4, .int 0), (3, .int 0), (0, .ref (h_t 0)), (1, .int a1), (2, .int a2)] dX9_countSeenFrom_12 (by decide) rfl ?_
  refine r_lv [2, 3, 4, 1, 0] rfl ?_
  exact B14 FU _ _ _ _ _ hf
-- X9_seenPoints
def rmX9_seenPoints : Room := { frames := 5, cells := 0, slots := 0, locals := 116 }
set_option maxHeartbeats 4000000 in
set_option maxRecDepth 100000 in
theorem zX9_seenPoints {l : Launch} {D : va_G} {cI cZ cQ : ClassId} {h_t h_w h_r : Nat → Nat} {r_b r_l r_H r_x r_T r_C r_d r_F r_n : Nat} {u_t u_w u_r : Pk} {a1 : Int32} {a2 : Int32} {r0 : Int32} {v_r : Pk} (hf : fX9_seenPoints u_t u_w u_r a1 a2 = some (r0, v_r)) : MI l yX9_seenPoints wsX9_seenPoints rmX9_seenPoints D (TY cI cZ cQ) [.ref (h_t 0), .int a1, .int a2] [nX9 cI cZ cQ h_t (h_w 0) r_b r_l r_H r_x r_T r_C r_d r_F (h_r 0) r_n u_t, nX8 cI cZ cQ h_w u_w, nX5 cI cZ cQ h_r (h_w 0) u_r] r0 [nX9 cI cZ cQ h_t (h_w 0) r_b r_l r_H r_x r_T r_C r_d r_F (h_r 0) r_n u_t, nX8 cI cZ cQ h_w u_w, nX5 cI cZ cQ h_r (h_w 0) v_r] := by
  refine MI.of (own := RX9) (by decide +kernel) rfl rfl (Nat.le_of_ble_eq_true rfl) (lv0 := [(0, .ref (h_t 0)), (1, .int a1), (2, .int a2)]) rfl ?_
  intro X O E
  unfold fX9_seenPoints at hf
  refine r_ild_n O 1 rfl 1 rfl dX9_seenPoints_0 ?_
  refine r_ild_n O 2 rfl 2 rfl dX9_seenPoints_1 ?_
  obtain ⟨x2, hq2, hf⟩ := qb1_some hf
  refine k_SZ O 5 rfl (zX9_isBadPoint (l := xl X) (D := xD X) (cI := cI) (cZ := cZ) (cQ := cQ) hq2) (gS mlX9_86 mvX9_isBadPoint izX9) rfl rfl rfl hdX9_isBadPoint ⟨Nat.le_of_ble_eq_true rfl, Nat.le_of_ble_eq_true rfl⟩ rfl rfl (Nat.le_of_ble_eq_true rfl) ⟨Nat.zero_le _, Nat.zero_le _⟩ [] rfl rfl rfl ([nX9 cI cZ cQ h_t (h_w 0) r_b r_l r_H r_x r_T r_C r_d r_F (h_r 0) r_n u_t, nX8 cI cZ cQ h_w u_w, nX5 cI cZ cQ h_r (h_w 0) u_r]) rfl dX9_seenPoints_2 (fun hz2 => ?_)
  refine r_if_eq O 8 rfl 13 dX9_seenPoints_5 (by decide) (fun hc5 => ?_) (fun hc5 => ?_)
  · rw [if_pos hc5] at hf
    refine r_ald_n O 14 rfl 0 rfl dX9_seenPoints_13 ?_
    refine r_ild_n O 15 rfl 1 rfl dX9_seenPoints_14 ?_
    refine r_ild_n O 16 rfl 2 rfl dX9_seenPoints_15 ?_
    obtain ⟨x16, p16_r, hq16, hf⟩ := qb2_some hf
    refine k_VI O 19 rfl (zX9_countSeenFrom (l := xl X) (D := xD X) (cI := cI) (cZ := cZ) (cQ := cQ) (h_t := h_t) (h_w := h_w) (r_b := r_b) (r_l := r_l) (r_H := r_H) (r_x := r_x) (r_T := r_T) (r_C := r_C) (r_d := r_d) (r_F := r_F) (h_r := h_r) (r_n := r_n) hq16) (gV mlX9_306 mvX9_countSeenFrom izX9) rfl rfl rfl hdX9_countSeenFrom ⟨Nat.le_of_ble_eq_true rfl, Nat.le_of_ble_eq_true rfl⟩ rfl 0 rfl rfl rfl rfl (Nat.le_of_ble_eq_true rfl) ⟨Nat.zero_le _, Nat.zero_le _⟩ [0, 1, 2] rfl rfl rfl ([nX9 cI cZ cQ h_t (h_w 0) r_b r_l r_H r_x r_T r_C r_d r_F (h_r 0) r_n u_t, nX8 cI cZ cQ h_w u_w, nX5 cI cZ cQ h_r (h_w 0) p16_r]) rfl dX9_seenPoints_16 ?_
    obtain ⟨g0, g1⟩ := qe2 hf
    exact r_iret2 O E g0 (by rw [g1]) dX9_seenPoints_19
  · rw [if_neg hc5] at hf
    refine r_bi O 10 rfl (-2) (by decide) dX9_seenPoints_8 ?_
    refine r_goto O 19 dX9_seenPoints_10 (by decide) ?_
    obtain ⟨g0, g1⟩ := qe2 hf
    exact r_iret2 O E g0 (by rw [g1]) dX9_seenPoints_19
-- X9_lookout
def rmX9_lookout : Room := { frames := 5, cells := 0, slots := 0, locals := 116 }
set_option maxHeartbeats 4000000 in
set_option maxRecDepth 100000 in
theorem zX9_lookout {l : Launch} {D : va_G} {cI cZ cQ : ClassId} {h_t h_w h_r : Nat → Nat} {r_b r_l r_H r_x r_T r_C r_d r_F r_n : Nat} {u_t u_w u_r : Pk} {a1 : Int32} {r0 : Int32} {v_r : Pk} (hf : fX9_lookout u_t u_w u_r a1 = some (r0, v_r)) : MI l yX9_lookout wsX9_lookout rmX9_lookout D (TY cI cZ cQ) [.ref (h_t 0), .int a1] [nX9 cI cZ cQ h_t (h_w 0) r_b r_l r_H r_x r_T r_C r_d r_F (h_r 0) r_n u_t, nX8 cI cZ cQ h_w u_w, nX5 cI cZ cQ h_r (h_w 0) u_r] r0 [nX9 cI cZ cQ h_t (h_w 0) r_b r_l r_H r_x r_T r_C r_d r_F (h_r 0) r_n u_t, nX8 cI cZ cQ h_w u_w, nX5 cI cZ cQ h_r (h_w 0) v_r] := by
  refine MI.of (own := RX9) (by decide +kernel) rfl rfl (Nat.le_of_ble_eq_true rfl) (lv0 := [(0, .ref (h_t 0)), (1, .int a1)]) rfl ?_
  intro X O E
  have B75 : ∀ (rec19 : Pk → Int32 → Int32 → Int32 → Int32 → Option (Int32 × Pk)), (∀ (w_r : Pk) (y1 : Int32) (y2 : Int32) (y3 : Int32) (y4 : Int32), rec19 w_r y1 y2 y3 y4 = some (r0, v_r) → BK X 7 0 0 19 ([nX9 cI cZ cQ h_t (h_w 0) r_b r_l r_H r_x r_T r_C r_d r_F (h_r 0) r_n u_t, nX8 cI cZ cQ h_w u_w, nX5 cI cZ cQ h_r (h_w 0) w_r]) [(0, .ref (h_t 0)), (1, .int y1), (2, .int y2), (3, .int y3), (4, .int y4)] []) → ∀ (rec29 : Pk → Int32 → Int32 → Int32 → Int32 → Int32 → Option (Int32 × Pk)), (∀ (w_r : Pk) (y1 : Int32) (y2 : Int32) (y3 : Int32) (y4 : Int32) (y5 : Int32), rec29 w_r y1 y2 y3 y4 y5 = some (r0, v_r) → BK X 7 0 0 29 ([nX9 cI cZ cQ h_t (h_w 0) r_b r_l r_H r_x r_T r_C r_d r_F (h_r 0) r_n u_t, nX8 cI cZ cQ h_w u_w, nX5 cI cZ cQ h_r (h_w 0) w_r]) [(0, .ref (h_t 0)), (1, .int y1), (2, .int y2), (3, .int y3), (4, .int y4), (5, .int y5)] []) → ∀ (w_r : Pk) (y1 : Int32) (y2 : Int32) (y3 : Int32) (y4 : Int32) (y5 : Int32), fX9_lookout_b75 rec19 rec29 u_t u_w w_r y1 y2 y3 y4 y5 = some (r0, v_r) → BK X 7 0 0 75 ([nX9 cI cZ cQ h_t (h_w 0) r_b r_l r_H r_x r_T r_C r_d r_F (h_r 0) r_n u_t, nX8 cI cZ cQ h_w u_w, nX5 cI cZ cQ h_r (h_w 0) w_r]) [(0, .ref (h_t 0)), (1, .int y1), (2, .int y2), (3, .int y3), (4, .int y4), (5, .int y5)] [] := by
    intro rec19 hrec19 rec29 hrec29 w_r y1 y2 y3 y4 y5 hf
    unfold fX9_lookout_b75 at hf
    obtain ⟨x75, ex75, hf⟩ := qn_some hf
    refine r_iinc O 78 rfl x75 5 rfl (by rw [ex75]; rfl) [(5, .int x75), (0, .ref (h_t 0)), (1, .int y1), (2, .int y2), (3, .int y3), (4, .int y4)] dX9_lookout_75 (by decide) rfl ?_
    refine r_goto O 29 dX9_lookout_78 (by decide) ?_
    refine r_lv [1, 2, 3, 4, 5, 0] rfl ?_
    exact hrec29 _ _ _ _ _ _ hf
  have B29 : ∀ (rec19 : Pk → Int32 → Int32 → Int32 → Int32 → Option (Int32 × Pk)), (∀ (w_r : Pk) (y1 : Int32) (y2 : Int32) (y3 : Int32) (y4 : Int32), rec19 w_r y1 y2 y3 y4 = some (r0, v_r) → BK X 7 0 0 19 ([nX9 cI cZ cQ h_t (h_w 0) r_b r_l r_H r_x r_T r_C r_d r_F (h_r 0) r_n u_t, nX8 cI cZ cQ h_w u_w, nX5 cI cZ cQ h_r (h_w 0) w_r]) [(0, .ref (h_t 0)), (1, .int y1), (2, .int y2), (3, .int y3), (4, .int y4)] []) → ∀ n : Nat, ∀ (w_r : Pk) (y1 : Int32) (y2 : Int32) (y3 : Int32) (y4 : Int32) (y5 : Int32), fX9_lookout_b29 rec19 u_t u_w n w_r y1 y2 y3 y4 y5 = some (r0, v_r) → BK X 7 0 0 29 ([nX9 cI cZ cQ h_t (h_w 0) r_b r_l r_H r_x r_T r_C r_d r_F (h_r 0) r_n u_t, nX8 cI cZ cQ h_w u_w, nX5 cI cZ cQ h_r (h_w 0) w_r]) [(0, .ref (h_t 0)), (1, .int y1), (2, .int y2), (3, .int y3), (4, .int y4), (5, .int y5)] [] := by
    intro rec19 hrec19
    intro n
    induction n with
    | zero => exact fun _ _ _ _ _ _ hf => qno hf
    | succ n hrec29 =>
      intro w_r y1 y2 y3 y4 y5 hf
      have hf : fX9_lookout_b29_s rec19 (fX9_lookout_b29 rec19 u_t u_w n) u_t u_w w_r y1 y2 y3 y4 y5 = some (r0, v_r) := hf
      generalize fX9_lookout_b29 rec19 u_t u_w n = rec29 at hf hrec29
      unfold fX9_lookout_b29_s at hf
      refine r_ild O 31 rfl 5 rfl dX9_lookout_29 ?_
      refine r_bi O 33 rfl 8 (by decide) dX9_lookout_31 ?_
      refine r_icmp_ge O 36 rfl 81 dX9_lookout_33 (by decide) (fun hc33 => ?_) (fun hc33 => ?_)
      · rw [if_pos hc33] at hf
        obtain ⟨x81, ex81, hf⟩ := qn_some hf
        refine r_iinc O 84 rfl x81 4 rfl (by rw [ex81]; rfl) [(4, .int x81), (0, .ref (h_t 0)), (1, .int y1), (2, .int y2), (3, .int y3), (5, .int y5)] dX9_lookout_81 (by decide) rfl ?_
        refine r_goto O 19 dX9_lookout_84 (by decide) ?_
        refine r_lv [1, 2, 3, 4, 0] rfl ?_
        exact hrec19 _ _ _ _ _ hf
      · rw [if_neg hc33] at hf
        refine r_ald_n O 37 rfl 0 rfl dX9_lookout_36 ?_
        refine r_ild O 39 rfl 4 rfl dX9_lookout_37 ?_
        refine r_bi O 41 rfl 8 (by decide) dX9_lookout_39 ?_
        refine r_imul O 42 rfl dX9_lookout_41 ?_
        refine r_ild O 44 rfl 5 rfl dX9_lookout_42 ?_
        refine r_bi O 46 rfl 8 (by decide) dX9_lookout_44 ?_
        refine r_imul O 47 rfl dX9_lookout_46 ?_
        obtain ⟨x47, p47_r, hq47, hf⟩ := qb2_some hf
        refine k_VI O 50 rfl (zX9_countSeenFrom (l := xl X) (D := xD X) (cI := cI) (cZ := cZ) (cQ := cQ) (h_t := h_t) (h_w := h_w) (r_b := r_b) (r_l := r_l) (r_H := r_H) (r_x := r_x) (r_T := r_T) (r_C := r_C) (r_d := r_d) (r_F := r_F) (h_r := h_r) (r_n := r_n) hq47) (gV mlX9_306 mvX9_countSeenFrom izX9) rfl rfl rfl hdX9_countSeenFrom ⟨Nat.le_of_ble_eq_true rfl, Nat.le_of_ble_eq_true rfl⟩ rfl 0 rfl rfl rfl rfl (Nat.le_of_ble_eq_true rfl) ⟨Nat.zero_le _, Nat.zero_le _⟩ [0, 1, 2] rfl rfl rfl ([nX9 cI cZ cQ h_t (h_w 0) r_b r_l r_H r_x r_T r_C r_d r_F (h_r 0) r_n u_t, nX8 cI cZ cQ h_w u_w, nX5 cI cZ cQ h_r (h_w 0) p47_r]) rfl dX9_lookout_47 ?_
        refine r_ist O 52 rfl [(6, .int x47), (0, .ref (h_t 0)), (1, .int y1), (2, .int y2), (3, .int y3), (4, .int y4), (5, .int y5)] dX9_lookout_50 (by decide) rfl ?_
        refine r_ild O 54 rfl 0 rfl dX9_lookout_52 ?_
        refine r_ild_n O 55 rfl 4 rfl dX9_lookout_54 ?_
        refine r_icmp_le O 58 rfl 75 dX9_lookout_55 (by decide) (fun hc55 => ?_) (fun hc55 => ?_)
        · rw [if_pos hc55] at hf
          refine r_lv [1, 2, 3, 4, 5, 6] rfl ?_
          exact B75 rec19 hrec19 rec29 hrec29 _ _ _ _ _ _ hf
        · rw [if_neg hc55] at hf
          refine r_ild O 60 rfl 0 rfl dX9_lookout_58 ?_
          refine r_ist_n O 61 rfl rfl [(3, .int x47), (6, .int x47), (0, .ref (h_t 0)), (1, .int y1), (2, .int y2), (4, .int y4), (5, .int y5)] dX9_lookout_60 (by decide) rfl ?_
          refine r_ild O 63 rfl 5 rfl dX9_lookout_61 ?_
          refine r_bi O 65 rfl 8 (by decide) dX9_lookout_63 ?_
          refine r_imul O 66 rfl dX9_lookout_65 ?_
          refine r_ild O 68 rfl 6 rfl dX9_lookout_66 ?_
          refine r_bi O 70 rfl 8 (by decide) dX9_lookout_68 ?_
          refine r_imul O 71 rfl dX9_lookout_70 ?_
          obtain ⟨x71, hq71, hf⟩ := qb1_some hf
          refine k_SI O 74 rfl (zX9_pointCode (l := xl X) (D := xD X) (cI := cI) (cZ := cZ) (cQ := cQ) hq71) (gS mlX9_129 mvX9_pointCode izX9) rfl rfl rfl hdX9_pointCode ⟨Nat.le_of_ble_eq_true rfl, Nat.le_of_ble_eq_true rfl⟩ rfl rfl (Nat.le_of_ble_eq_true rfl) ⟨Nat.zero_le _, Nat.zero_le _⟩ [] rfl rfl rfl ([nX9 cI cZ cQ h_t (h_w 0) r_b r_l r_H r_x r_T r_C r_d r_F (h_r 0) r_n u_t, nX8 cI cZ cQ h_w u_w, nX5 cI cZ cQ h_r (h_w 0) p47_r]) rfl dX9_lookout_71 ?_
          refine r_ist_n O 75 rfl rfl [(2, .int x71), (3, .int x47), (6, .int x47), (0, .ref (h_t 0)), (1, .int y1), (4, .int y4), (5, .int y5)] dX9_lookout_74 (by decide) rfl ?_
          refine r_lv [3, 4, 0, 1, 5, 6] rfl ?_
          exact B75 rec19 hrec19 rec29 hrec29 _ _ _ _ _ _ hf
  have B19 : ∀ n : Nat, ∀ (w_r : Pk) (y1 : Int32) (y2 : Int32) (y3 : Int32) (y4 : Int32), fX9_lookout_b19 u_t u_w n w_r y1 y2 y3 y4 = some (r0, v_r) → BK X 7 0 0 19 ([nX9 cI cZ cQ h_t (h_w 0) r_b r_l r_H r_x r_T r_C r_d r_F (h_r 0) r_n u_t, nX8 cI cZ cQ h_w u_w, nX5 cI cZ cQ h_r (h_w 0) w_r]) [(0, .ref (h_t 0)), (1, .int y1), (2, .int y2), (3, .int y3), (4, .int y4)] [] := by
    intro n
    induction n with
    | zero => exact fun _ _ _ _ _ hf => qno hf
    | succ n hrec19 =>
      intro w_r y1 y2 y3 y4 hf
      have hf : fX9_lookout_b19_s (fX9_lookout_b19 u_t u_w n) u_t u_w w_r y1 y2 y3 y4 = some (r0, v_r) := hf
      generalize fX9_lookout_b19 u_t u_w n = rec19 at hf hrec19
      unfold fX9_lookout_b19_s at hf
      refine r_ild O 21 rfl 4 rfl dX9_lookout_19 ?_
      refine r_bi O 23 rfl 8 (by decide) dX9_lookout_21 ?_
      refine r_icmp_ge O 26 rfl 87 dX9_lookout_23 (by decide) (fun hc23 => ?_) (fun hc23 => ?_)
      · rw [if_pos hc23] at hf
        refine r_ild_n O 88 rfl 1 rfl dX9_lookout_87 ?_
        refine r_if_ne O 91 rfl 95 dX9_lookout_88 (by decide) (fun hc88 => ?_) (fun hc88 => ?_)
        · rw [if_neg hc88] at hf
          refine r_ild_n O 96 rfl 3 rfl dX9_lookout_95 ?_
          obtain ⟨g0, g1⟩ := qe2 hf
          exact r_iret2 O E g0 (by rw [g1]) dX9_lookout_96
        · rw [if_pos hc88] at hf
          refine r_ild_n O 92 rfl 2 rfl dX9_lookout_91 ?_
          refine r_goto O 96 dX9_lookout_92 (by decide) ?_
          obtain ⟨g0, g1⟩ := qe2 hf
          exact r_iret2 O E g0 (by rw [g1]) dX9_lookout_96
      · rw [if_neg hc23] at hf
        refine r_ic O 27 rfl 0 (by decide) dX9_lookout_26 ?_
        refine r_ist O 29 rfl [(5, .int 0), (0, .ref (h_t 0)), (1, .int y1), (2, .int y2), (3, .int y3), (4, .int y4)] dX9_lookout_27 (by decide) rfl ?_
        refine r_lv [1, 2, 3, 4, 5, 0] rfl ?_
        exact B29 rec19 hrec19 FU _ _ _ _ _ _ hf
  unfold fX9_lookout at hf
  refine r_ild_n O 1 rfl 1 rfl dX9_lookout_0 ?_
  refine r_ic O 2 rfl 0 (by decide) dX9_lookout_1 ?_
  refine r_ic O 3 rfl 1 (by decide) dX9_lookout_2 ?_
  obtain ⟨x3, hq3, hf⟩ := qb1_some hf
  refine k_SZ O 6 rfl (zX9_isOutside (l := xl X) (D := xD X) (cI := cI) (cZ := cZ) (cQ := cQ) hq3) (gS mlX9_90 mvX9_isOutside izX9) rfl rfl rfl hdX9_isOutside ⟨Nat.le_of_ble_eq_true rfl, Nat.le_of_ble_eq_true rfl⟩ rfl rfl (Nat.le_of_ble_eq_true rfl) ⟨Nat.zero_le _, Nat.zero_le _⟩ [] rfl rfl rfl ([nX9 cI cZ cQ h_t (h_w 0) r_b r_l r_H r_x r_T r_C r_d r_F (h_r 0) r_n u_t, nX8 cI cZ cQ h_w u_w, nX5 cI cZ cQ h_r (h_w 0) u_r]) rfl dX9_lookout_3 (fun hz3 => ?_)
  refine r_if_eq O 9 rfl 12 dX9_lookout_6 (by decide) (fun hc6 => ?_) (fun hc6 => ?_)
  · rw [if_pos hc6] at hf
    refine r_ic O 13 rfl 0 (by decide) dX9_lookout_12 ?_
    refine r_ist_n O 14 rfl rfl [(2, .int 0), (0, .ref (h_t 0)), (1, .int a1)] dX9_lookout_13 (by decide) rfl ?_
    refine r_ic O 15 rfl (-1) (by decide) dX9_lookout_14 ?_
    refine r_ist_n O 16 rfl rfl [(3, .int (-1)), (2, .int 0), (0, .ref (h_t 0)), (1, .int a1)] dX9_lookout_15 (by decide) rfl ?_
    refine r_ic O 17 rfl 0 (by decide) dX9_lookout_16 ?_
    refine r_ist O 19 rfl [(4, .int 0), (3, .int (-1)), (2, .int 0), (0, .ref (h_t 0)), (1, .int a1)] dX9_lookout_17 (by decide) rfl ?_
    refine r_lv [3, 4, 2, 1, 0] rfl ?_
    exact B19 FU _ _ _ _ _ hf
  · rw [if_neg hc6] at hf
    refine r_bi O 11 rfl (-2) (by decide) dX9_lookout_9 ?_
    obtain ⟨g0, g1⟩ := qe2 hf
    exact r_iret2 O E g0 (by rw [g1]) dX9_lookout_11
-- X9_canMove
def rmX9_canMove : Room := { frames := 4, cells := 0, slots := 0, locals := 91 }
set_option maxHeartbeats 4000000 in
set_option maxRecDepth 100000 in
theorem zX9_canMove {l : Launch} {D : va_G} {cI cZ cQ : ClassId} {h_t h_w h_r : Nat → Nat} {r_b r_l r_H r_x r_T r_C r_d r_F r_n : Nat} {u_t u_w u_r : Pk} {a1 : Int32} {a2 : Int32} {a3 : Int32} {a4 : Int32} {r0 : Int32} {v_r : Pk} (hf : fX9_canMove u_t u_w u_r a1 a2 a3 a4 = some (r0, v_r)) : MZ l yX9_canMove wsX9_canMove rmX9_canMove D (TY cI cZ cQ) [.ref (h_t 0), .int a1, .int a2, .int a3, .int a4] [nX9 cI cZ cQ h_t (h_w 0) r_b r_l r_H r_x r_T r_C r_d r_F (h_r 0) r_n u_t, nX8 cI cZ cQ h_w u_w, nX5 cI cZ cQ h_r (h_w 0) u_r] r0 [nX9 cI cZ cQ h_t (h_w 0) r_b r_l r_H r_x r_T r_C r_d r_F (h_r 0) r_n u_t, nX8 cI cZ cQ h_w u_w, nX5 cI cZ cQ h_r (h_w 0) v_r] := by
  refine MZ.of (own := RX9) (by decide +kernel) rfl rfl (Nat.le_of_ble_eq_true rfl) (lv0 := [(0, .ref (h_t 0)), (1, .int a1), (2, .int a2), (3, .int a3), (4, .int a4)]) rfl ?_
  intro X O E
  unfold fX9_canMove at hf
  refine r_ild_n O 1 rfl 1 rfl dX9_canMove_0 ?_
  refine r_ild_n O 2 rfl 3 rfl dX9_canMove_1 ?_
  refine r_iadd O 3 rfl dX9_canMove_2 ?_
  refine r_ild_n O 4 rfl 2 rfl dX9_canMove_3 ?_
  refine r_ild O 6 rfl 4 rfl dX9_canMove_4 ?_
  refine r_iadd O 7 rfl dX9_canMove_6 ?_
  obtain ⟨x7, hq7, hf⟩ := qb1_some hf
  refine k_SZ O 10 rfl (zX9_isBadPoint (l := xl X) (D := xD X) (cI := cI) (cZ := cZ) (cQ := cQ) hq7) (gS mlX9_86 mvX9_isBadPoint izX9) rfl rfl rfl hdX9_isBadPoint ⟨Nat.le_of_ble_eq_true rfl, Nat.le_of_ble_eq_true rfl⟩ rfl rfl (Nat.le_of_ble_eq_true rfl) ⟨Nat.zero_le _, Nat.zero_le _⟩ [] rfl rfl rfl ([nX9 cI cZ cQ h_t (h_w 0) r_b r_l r_H r_x r_T r_C r_d r_F (h_r 0) r_n u_t, nX8 cI cZ cQ h_w u_w, nX5 cI cZ cQ h_r (h_w 0) u_r]) rfl dX9_canMove_7 (fun hz7 => ?_)
  refine r_if_ne O 13 rfl 27 dX9_canMove_10 (by decide) (fun hc10 => ?_) (fun hc10 => ?_)
  · rw [if_neg hc10] at hf
    refine r_ic O 28 rfl 0 (by decide) dX9_canMove_27 ?_
    obtain ⟨g0, g1⟩ := qe2 hf
    exact r_zret2 O E g0 (by rw [g1]) rfl dX9_canMove_28
  · rw [if_pos hc10] at hf
    refine r_ald_n O 14 rfl 0 rfl dX9_canMove_13 ?_
    refine r_ild_n O 15 rfl 3 rfl dX9_canMove_14 ?_
    refine r_ild O 17 rfl 4 rfl dX9_canMove_15 ?_
    obtain ⟨x17, p17_r, hq17, hf⟩ := qb2_some hf
    refine k_VZ O 20 rfl (zX9_sees (l := xl X) (D := xD X) (cI := cI) (cZ := cZ) (cQ := cQ) (h_t := h_t) (h_w := h_w) (r_b := r_b) (r_l := r_l) (r_H := r_H) (r_x := r_x) (r_T := r_T) (r_C := r_C) (r_d := r_d) (r_F := r_F) (h_r := h_r) (r_n := r_n) hq17) (gV mlX9_384 mvX9_sees izX9) rfl rfl rfl hdX9_sees ⟨Nat.le_of_ble_eq_true rfl, Nat.le_of_ble_eq_true rfl⟩ rfl 0 rfl rfl rfl rfl (Nat.le_of_ble_eq_true rfl) ⟨Nat.zero_le _, Nat.zero_le _⟩ [0, 1, 2] rfl rfl rfl ([nX9 cI cZ cQ h_t (h_w 0) r_b r_l r_H r_x r_T r_C r_d r_F (h_r 0) r_n u_t, nX8 cI cZ cQ h_w u_w, nX5 cI cZ cQ h_r (h_w 0) p17_r]) rfl dX9_canMove_17 (fun hz17 => ?_)
    refine r_if_eq O 23 rfl 27 dX9_canMove_20 (by decide) (fun hc20 => ?_) (fun hc20 => ?_)
    · rw [if_pos hc20] at hf
      refine r_ic O 28 rfl 0 (by decide) dX9_canMove_27 ?_
      obtain ⟨g0, g1⟩ := qe2 hf
      exact r_zret2 O E g0 (by rw [g1]) rfl dX9_canMove_28
    · rw [if_neg hc20] at hf
      refine r_ic O 24 rfl 1 (by decide) dX9_canMove_23 ?_
      refine r_goto O 28 dX9_canMove_24 (by decide) ?_
      obtain ⟨g0, g1⟩ := qe2 hf
      exact r_zret2 O E g0 (by rw [g1]) rfl dX9_canMove_28
-- X9_placeAfterMove
def rmX9_placeAfterMove : Room := { frames := 5, cells := 0, slots := 0, locals := 115 }
set_option maxHeartbeats 4000000 in
set_option maxRecDepth 100000 in
theorem zX9_placeAfterMove {l : Launch} {D : va_G} {cI cZ cQ : ClassId} {h_t h_w h_r : Nat → Nat} {r_b r_l r_H r_x r_T r_C r_d r_F r_n : Nat} {u_t u_w u_r : Pk} {a1 : Int32} {a2 : Int32} {a3 : Int32} {a4 : Int32} {r0 : Int32} {v_r : Pk} (hf : fX9_placeAfterMove u_t u_w u_r a1 a2 a3 a4 = some (r0, v_r)) : MI l yX9_placeAfterMove wsX9_placeAfterMove rmX9_placeAfterMove D (TY cI cZ cQ) [.ref (h_t 0), .int a1, .int a2, .int a3, .int a4] [nX9 cI cZ cQ h_t (h_w 0) r_b r_l r_H r_x r_T r_C r_d r_F (h_r 0) r_n u_t, nX8 cI cZ cQ h_w u_w, nX5 cI cZ cQ h_r (h_w 0) u_r] r0 [nX9 cI cZ cQ h_t (h_w 0) r_b r_l r_H r_x r_T r_C r_d r_F (h_r 0) r_n u_t, nX8 cI cZ cQ h_w u_w, nX5 cI cZ cQ h_r (h_w 0) v_r] := by
  refine MI.of (own := RX9) (by decide +kernel) rfl rfl (Nat.le_of_ble_eq_true rfl) (lv0 := [(0, .ref (h_t 0)), (1, .int a1), (2, .int a2), (3, .int a3), (4, .int a4)]) rfl ?_
  intro X O E
  unfold fX9_placeAfterMove at hf
  refine r_ald_n O 1 rfl 0 rfl dX9_placeAfterMove_0 ?_
  refine r_get (ref := RX9) (C := RX9) (T := TX9) (N := 13) O 4 rfl inBX9 0 9 rfl rfl rfl (by decide) flX9_67 rfl rfl dX9_placeAfterMove_1 ?_
  refine r_ild_n O 5 rfl 1 rfl dX9_placeAfterMove_4 ?_
  refine r_ild_n O 6 rfl 2 rfl dX9_placeAfterMove_5 ?_
  obtain ⟨p6_r, hq6, hf⟩ := qb1_some hf
  refine k_VV O 9 rfl (zX5_standAt (l := xl X) (D := xD X) (cI := cI) (cZ := cZ) (cQ := cQ) (h_t := h_r) (h_w := h_w) hq6) (gV mlX9_266 mvX5_standAt izX5) rfl rfl rfl hdX5_standAt ⟨Nat.le_of_ble_eq_true rfl, Nat.le_of_ble_eq_true rfl⟩ rfl 2 rfl rfl rfl rfl (Nat.le_of_ble_eq_true rfl) ⟨Nat.zero_le _, Nat.zero_le _⟩ [2, 1] rfl rfl rfl ([nX9 cI cZ cQ h_t (h_w 0) r_b r_l r_H r_x r_T r_C r_d r_F (h_r 0) r_n u_t, nX8 cI cZ cQ h_w u_w, nX5 cI cZ cQ h_r (h_w 0) p6_r]) rfl dX9_placeAfterMove_6 ?_
  refine r_ald_n O 10 rfl 0 rfl dX9_placeAfterMove_9 ?_
  refine r_ild_n O 11 rfl 1 rfl dX9_placeAfterMove_10 ?_
  refine r_ild_n O 12 rfl 2 rfl dX9_placeAfterMove_11 ?_
  refine r_ild_n O 13 rfl 3 rfl dX9_placeAfterMove_12 ?_
  refine r_ild O 15 rfl 4 rfl dX9_placeAfterMove_13 ?_
  obtain ⟨x15, p15_r, hq15, hf⟩ := qb2_some hf
  refine k_VZ O 18 rfl (zX9_canMove (l := xl X) (D := xD X) (cI := cI) (cZ := cZ) (cQ := cQ) (h_t := h_t) (h_w := h_w) (r_b := r_b) (r_l := r_l) (r_H := r_H) (r_x := r_x) (r_T := r_T) (r_C := r_C) (r_d := r_d) (r_F := r_F) (h_r := h_r) (r_n := r_n) hq15) (gV mlX9_390 mvX9_canMove izX9) rfl rfl rfl hdX9_canMove ⟨Nat.le_of_ble_eq_true rfl, Nat.le_of_ble_eq_true rfl⟩ rfl 0 rfl rfl rfl rfl (Nat.le_of_ble_eq_true rfl) ⟨Nat.zero_le _, Nat.zero_le _⟩ [0, 1, 2] rfl rfl rfl ([nX9 cI cZ cQ h_t (h_w 0) r_b r_l r_H r_x r_T r_C r_d r_F (h_r 0) r_n u_t, nX8 cI cZ cQ h_w u_w, nX5 cI cZ cQ h_r (h_w 0) p15_r]) rfl dX9_placeAfterMove_15 (fun hz15 => ?_)
  refine r_if_eq O 21 rfl 32 dX9_placeAfterMove_18 (by decide) (fun hc18 => ?_) (fun hc18 => ?_)
  · rw [if_pos hc18] at hf
    refine r_ald_n O 33 rfl 0 rfl dX9_placeAfterMove_32 ?_
    refine r_ild_n O 34 rfl 1 rfl dX9_placeAfterMove_33 ?_
    refine r_ild_n O 35 rfl 2 rfl dX9_placeAfterMove_34 ?_
    refine r_ild_n O 36 rfl 3 rfl dX9_placeAfterMove_35 ?_
    refine r_ic O 37 rfl 0 (by decide) dX9_placeAfterMove_36 ?_
    obtain ⟨x37, p37_r, hq37, hf⟩ := qb2_some hf
    refine k_VZ O 40 rfl (zX9_canMove (l := xl X) (D := xD X) (cI := cI) (cZ := cZ) (cQ := cQ) (h_t := h_t) (h_w := h_w) (r_b := r_b) (r_l := r_l) (r_H := r_H) (r_x := r_x) (r_T := r_T) (r_C := r_C) (r_d := r_d) (r_F := r_F) (h_r := h_r) (r_n := r_n) hq37) (gV mlX9_390 mvX9_canMove izX9) rfl rfl rfl hdX9_canMove ⟨Nat.le_of_ble_eq_true rfl, Nat.le_of_ble_eq_true rfl⟩ rfl 0 rfl rfl rfl rfl (Nat.le_of_ble_eq_true rfl) ⟨Nat.zero_le _, Nat.zero_le _⟩ [0, 1, 2] rfl rfl rfl ([nX9 cI cZ cQ h_t (h_w 0) r_b r_l r_H r_x r_T r_C r_d r_F (h_r 0) r_n u_t, nX8 cI cZ cQ h_w u_w, nX5 cI cZ cQ h_r (h_w 0) p37_r]) rfl dX9_placeAfterMove_37 (fun hz37 => ?_)
    refine r_if_eq O 43 rfl 51 dX9_placeAfterMove_40 (by decide) (fun hc40 => ?_) (fun hc40 => ?_)
    · rw [if_pos hc40] at hf
      refine r_ald_n O 52 rfl 0 rfl dX9_placeAfterMove_51 ?_
      refine r_ild_n O 53 rfl 1 rfl dX9_placeAfterMove_52 ?_
      refine r_ild_n O 54 rfl 2 rfl dX9_placeAfterMove_53 ?_
      refine r_ic O 55 rfl 0 (by decide) dX9_placeAfterMove_54 ?_
      refine r_ild O 57 rfl 4 rfl dX9_placeAfterMove_55 ?_
      obtain ⟨x57, p57_r, hq57, hf⟩ := qb2_some hf
      refine k_VZ O 60 rfl (zX9_canMove (l := xl X) (D := xD X) (cI := cI) (cZ := cZ) (cQ := cQ) (h_t := h_t) (h_w := h_w) (r_b := r_b) (r_l := r_l) (r_H := r_H) (r_x := r_x) (r_T := r_T) (r_C := r_C) (r_d := r_d) (r_F := r_F) (h_r := h_r) (r_n := r_n) hq57) (gV mlX9_390 mvX9_canMove izX9) rfl rfl rfl hdX9_canMove ⟨Nat.le_of_ble_eq_true rfl, Nat.le_of_ble_eq_true rfl⟩ rfl 0 rfl rfl rfl rfl (Nat.le_of_ble_eq_true rfl) ⟨Nat.zero_le _, Nat.zero_le _⟩ [0, 1, 2] rfl rfl rfl ([nX9 cI cZ cQ h_t (h_w 0) r_b r_l r_H r_x r_T r_C r_d r_F (h_r 0) r_n u_t, nX8 cI cZ cQ h_w u_w, nX5 cI cZ cQ h_r (h_w 0) p57_r]) rfl dX9_placeAfterMove_57 (fun hz57 => ?_)
      refine r_if_eq O 63 rfl 72 dX9_placeAfterMove_60 (by decide) (fun hc60 => ?_) (fun hc60 => ?_)
      · rw [if_pos hc60] at hf
        refine r_ild_n O 73 rfl 1 rfl dX9_placeAfterMove_72 ?_
        refine r_ild_n O 74 rfl 2 rfl dX9_placeAfterMove_73 ?_
        obtain ⟨x74, hq74, hf⟩ := qb1_some hf
        refine k_SI O 77 rfl (zX9_pointCode (l := xl X) (D := xD X) (cI := cI) (cZ := cZ) (cQ := cQ) hq74) (gS mlX9_129 mvX9_pointCode izX9) rfl rfl rfl hdX9_pointCode ⟨Nat.le_of_ble_eq_true rfl, Nat.le_of_ble_eq_true rfl⟩ rfl rfl (Nat.le_of_ble_eq_true rfl) ⟨Nat.zero_le _, Nat.zero_le _⟩ [] rfl rfl rfl ([nX9 cI cZ cQ h_t (h_w 0) r_b r_l r_H r_x r_T r_C r_d r_F (h_r 0) r_n u_t, nX8 cI cZ cQ h_w u_w, nX5 cI cZ cQ h_r (h_w 0) p57_r]) rfl dX9_placeAfterMove_74 ?_
        obtain ⟨g0, g1⟩ := qe2 hf
        exact r_iret2 O E g0 (by rw [g1]) dX9_placeAfterMove_77
      · rw [if_neg hc60] at hf
        refine r_ild_n O 64 rfl 1 rfl dX9_placeAfterMove_63 ?_
        refine r_ild_n O 65 rfl 2 rfl dX9_placeAfterMove_64 ?_
        refine r_ild O 67 rfl 4 rfl dX9_placeAfterMove_65 ?_
        refine r_iadd O 68 rfl dX9_placeAfterMove_67 ?_
        obtain ⟨x68, hq68, hf⟩ := qb1_some hf
        refine k_SI O 71 rfl (zX9_pointCode (l := xl X) (D := xD X) (cI := cI) (cZ := cZ) (cQ := cQ) hq68) (gS mlX9_129 mvX9_pointCode izX9) rfl rfl rfl hdX9_pointCode ⟨Nat.le_of_ble_eq_true rfl, Nat.le_of_ble_eq_true rfl⟩ rfl rfl (Nat.le_of_ble_eq_true rfl) ⟨Nat.zero_le _, Nat.zero_le _⟩ [] rfl rfl rfl ([nX9 cI cZ cQ h_t (h_w 0) r_b r_l r_H r_x r_T r_C r_d r_F (h_r 0) r_n u_t, nX8 cI cZ cQ h_w u_w, nX5 cI cZ cQ h_r (h_w 0) p57_r]) rfl dX9_placeAfterMove_68 ?_
        obtain ⟨g0, g1⟩ := qe2 hf
        exact r_iret2 O E g0 (by rw [g1]) dX9_placeAfterMove_71
    · rw [if_neg hc40] at hf
      refine r_ild_n O 44 rfl 1 rfl dX9_placeAfterMove_43 ?_
      refine r_ild_n O 45 rfl 3 rfl dX9_placeAfterMove_44 ?_
      refine r_iadd O 46 rfl dX9_placeAfterMove_45 ?_
      refine r_ild_n O 47 rfl 2 rfl dX9_placeAfterMove_46 ?_
      obtain ⟨x47, hq47, hf⟩ := qb1_some hf
      refine k_SI O 50 rfl (zX9_pointCode (l := xl X) (D := xD X) (cI := cI) (cZ := cZ) (cQ := cQ) hq47) (gS mlX9_129 mvX9_pointCode izX9) rfl rfl rfl hdX9_pointCode ⟨Nat.le_of_ble_eq_true rfl, Nat.le_of_ble_eq_true rfl⟩ rfl rfl (Nat.le_of_ble_eq_true rfl) ⟨Nat.zero_le _, Nat.zero_le _⟩ [] rfl rfl rfl ([nX9 cI cZ cQ h_t (h_w 0) r_b r_l r_H r_x r_T r_C r_d r_F (h_r 0) r_n u_t, nX8 cI cZ cQ h_w u_w, nX5 cI cZ cQ h_r (h_w 0) p37_r]) rfl dX9_placeAfterMove_47 ?_
      obtain ⟨g0, g1⟩ := qe2 hf
      exact r_iret2 O E g0 (by rw [g1]) dX9_placeAfterMove_50
  · rw [if_neg hc18] at hf
    refine r_ild_n O 22 rfl 1 rfl dX9_placeAfterMove_21 ?_
    refine r_ild_n O 23 rfl 3 rfl dX9_placeAfterMove_22 ?_
    refine r_iadd O 24 rfl dX9_placeAfterMove_23 ?_
    refine r_ild_n O 25 rfl 2 rfl dX9_placeAfterMove_24 ?_
    refine r_ild O 27 rfl 4 rfl dX9_placeAfterMove_25 ?_
    refine r_iadd O 28 rfl dX9_placeAfterMove_27 ?_
    obtain ⟨x28, hq28, hf⟩ := qb1_some hf
    refine k_SI O 31 rfl (zX9_pointCode (l := xl X) (D := xD X) (cI := cI) (cZ := cZ) (cQ := cQ) hq28) (gS mlX9_129 mvX9_pointCode izX9) rfl rfl rfl hdX9_pointCode ⟨Nat.le_of_ble_eq_true rfl, Nat.le_of_ble_eq_true rfl⟩ rfl rfl (Nat.le_of_ble_eq_true rfl) ⟨Nat.zero_le _, Nat.zero_le _⟩ [] rfl rfl rfl ([nX9 cI cZ cQ h_t (h_w 0) r_b r_l r_H r_x r_T r_C r_d r_F (h_r 0) r_n u_t, nX8 cI cZ cQ h_w u_w, nX5 cI cZ cQ h_r (h_w 0) p15_r]) rfl dX9_placeAfterMove_28 ?_
    obtain ⟨g0, g1⟩ := qe2 hf
    exact r_iret2 O E g0 (by rw [g1]) dX9_placeAfterMove_31
-- X9_walk
def rmX9_walk : Room := { frames := 6, cells := 0, slots := 0, locals := 139 }
set_option maxHeartbeats 4000000 in
set_option maxRecDepth 100000 in
theorem zX9_walk {l : Launch} {D : va_G} {cI cZ cQ : ClassId} {h_t h_w h_r : Nat → Nat} {r_b r_l r_H r_x r_T r_C r_d r_F r_n : Nat} {u_t u_w u_r : Pk} {a1 : Int32} {a2 : Int32} {a3 : Int32} {a4 : Int32} {r0 : Int32} {v_r : Pk} (hf : fX9_walk u_t u_w u_r a1 a2 a3 a4 = some (r0, v_r)) : MI l yX9_walk wsX9_walk rmX9_walk D (TY cI cZ cQ) [.ref (h_t 0), .int a1, .int a2, .int a3, .int a4] [nX9 cI cZ cQ h_t (h_w 0) r_b r_l r_H r_x r_T r_C r_d r_F (h_r 0) r_n u_t, nX8 cI cZ cQ h_w u_w, nX5 cI cZ cQ h_r (h_w 0) u_r] r0 [nX9 cI cZ cQ h_t (h_w 0) r_b r_l r_H r_x r_T r_C r_d r_F (h_r 0) r_n u_t, nX8 cI cZ cQ h_w u_w, nX5 cI cZ cQ h_r (h_w 0) v_r] := by
  refine MI.of (own := RX9) (by decide +kernel) rfl rfl (Nat.le_of_ble_eq_true rfl) (lv0 := [(0, .ref (h_t 0)), (1, .int a1), (2, .int a2), (3, .int a3), (4, .int a4)]) rfl ?_
  intro X O E
  unfold fX9_walk at hf
  refine r_ild_n O 1 rfl 1 rfl dX9_walk_0 ?_
  refine r_ild_n O 2 rfl 2 rfl dX9_walk_1 ?_
  obtain ⟨x2, hq2, hf⟩ := qb1_some hf
  refine k_SZ O 5 rfl (zX9_isBadPoint (l := xl X) (D := xD X) (cI := cI) (cZ := cZ) (cQ := cQ) hq2) (gS mlX9_86 mvX9_isBadPoint izX9) rfl rfl rfl hdX9_isBadPoint ⟨Nat.le_of_ble_eq_true rfl, Nat.le_of_ble_eq_true rfl⟩ rfl rfl (Nat.le_of_ble_eq_true rfl) ⟨Nat.zero_le _, Nat.zero_le _⟩ [] rfl rfl rfl ([nX9 cI cZ cQ h_t (h_w 0) r_b r_l r_H r_x r_T r_C r_d r_F (h_r 0) r_n u_t, nX8 cI cZ cQ h_w u_w, nX5 cI cZ cQ h_r (h_w 0) u_r]) rfl dX9_walk_2 (fun hz2 => ?_)
  refine r_if_ne O 8 rfl 17 dX9_walk_5 (by decide) (fun hc5 => ?_) (fun hc5 => ?_)
  · rw [if_neg hc5] at hf
    refine r_bi O 19 rfl (-2) (by decide) dX9_walk_17 ?_
    obtain ⟨g0, g1⟩ := qe2 hf
    exact r_iret2 O E g0 (by rw [g1]) dX9_walk_19
  · rw [if_pos hc5] at hf
    refine r_ild_n O 9 rfl 3 rfl dX9_walk_8 ?_
    refine r_ild O 11 rfl 4 rfl dX9_walk_9 ?_
    obtain ⟨x11, hq11, hf⟩ := qb1_some hf
    refine k_SZ O 14 rfl (zX9_isBadDirection (l := xl X) (D := xD X) (cI := cI) (cZ := cZ) (cQ := cQ) hq11) (gS mlX9_309 mvX9_isBadDirection izX9) rfl rfl rfl hdX9_isBadDirection ⟨Nat.le_of_ble_eq_true rfl, Nat.le_of_ble_eq_true rfl⟩ rfl rfl (Nat.le_of_ble_eq_true rfl) ⟨Nat.zero_le _, Nat.zero_le _⟩ [] rfl rfl rfl ([nX9 cI cZ cQ h_t (h_w 0) r_b r_l r_H r_x r_T r_C r_d r_F (h_r 0) r_n u_t, nX8 cI cZ cQ h_w u_w, nX5 cI cZ cQ h_r (h_w 0) u_r]) rfl dX9_walk_11 (fun hz11 => ?_)
    refine r_if_eq O 17 rfl 20 dX9_walk_14 (by decide) (fun hc14 => ?_) (fun hc14 => ?_)
    · rw [if_pos hc14] at hf
      refine r_ald_n O 21 rfl 0 rfl dX9_walk_20 ?_
      refine r_ild_n O 22 rfl 1 rfl dX9_walk_21 ?_
      refine r_ild_n O 23 rfl 2 rfl dX9_walk_22 ?_
      refine r_ild_n O 24 rfl 3 rfl dX9_walk_23 ?_
      refine r_ild O 26 rfl 4 rfl dX9_walk_24 ?_
      obtain ⟨x26, p26_r, hq26, hf⟩ := qb2_some hf
      refine k_VI O 29 rfl (zX9_placeAfterMove (l := xl X) (D := xD X) (cI := cI) (cZ := cZ) (cQ := cQ) (h_t := h_t) (h_w := h_w) (r_b := r_b) (r_l := r_l) (r_H := r_H) (r_x := r_x) (r_T := r_T) (r_C := r_C) (r_d := r_d) (r_F := r_F) (h_r := h_r) (r_n := r_n) hq26) (gV mlX9_312 mvX9_placeAfterMove izX9) rfl rfl rfl hdX9_placeAfterMove ⟨Nat.le_of_ble_eq_true rfl, Nat.le_of_ble_eq_true rfl⟩ rfl 0 rfl rfl rfl rfl (Nat.le_of_ble_eq_true rfl) ⟨Nat.zero_le _, Nat.zero_le _⟩ [0, 1, 2] rfl rfl rfl ([nX9 cI cZ cQ h_t (h_w 0) r_b r_l r_H r_x r_T r_C r_d r_F (h_r 0) r_n u_t, nX8 cI cZ cQ h_w u_w, nX5 cI cZ cQ h_r (h_w 0) p26_r]) rfl dX9_walk_26 ?_
      obtain ⟨g0, g1⟩ := qe2 hf
      exact r_iret2 O E g0 (by rw [g1]) dX9_walk_29
    · rw [if_neg hc14] at hf
      refine r_bi O 19 rfl (-2) (by decide) dX9_walk_17 ?_
      obtain ⟨g0, g1⟩ := qe2 hf
      exact r_iret2 O E g0 (by rw [g1]) dX9_walk_19
