set_option maxHeartbeats 40000000 in
set_option maxRecDepth 100000 in
theorem lwB1756 {X : Cx} {cI cZ cQ : ClassId} {bS L : Nat} {xs : Nat → Int32} (O : OK X cL_law 8 RL wB room_1 cI cZ cQ) (S : SX X bS L xs) (E : ∀ {pc : Nat} {ws : List va_W} {lv : List (Nat × Value)}, decode cL_law pc = .ok (.ireturn, 1) → BK X 8 177 15831 pc ws lv [.int 1]) {h_t h_w h_b h_l h_H h_k0 h_k1 h_k2 h_k3 h_k4 h_k5 h_k6 h_k7 h_x h_T h_L h_P h_C h_M h_Q h_d h_F h_G h_r h_n h_m : Nat → Nat} (rec18 : Pk → Pk → Pk → Pk → Pk → Pk → Pk → Pk → Pk → Pk → Pk → Pk → Pk → Pk → Pk → Pk → Pk → Pk → Pk → Pk → Pk → Pk → Pk → Pk → Pk → Pk → Int32 → Option Int32) (hrec18 : ∀ (w_t : Pk) (w_w : Pk) (w_b : Pk) (w_l : Pk) (w_H : Pk) (w_k0 : Pk) (w_k1 : Pk) (w_k2 : Pk) (w_k3 : Pk) (w_k4 : Pk) (w_k5 : Pk) (w_k6 : Pk) (w_k7 : Pk) (w_x : Pk) (w_T : Pk) (w_L : Pk) (w_P : Pk) (w_C : Pk) (w_M : Pk) (w_Q : Pk) (w_d : Pk) (w_F : Pk) (w_G : Pk) (w_r : Pk) (w_n : Pk) (w_m : Pk) (y3 : Int32), rec18 w_t w_w w_b w_l w_H w_k0 w_k1 w_k2 w_k3 w_k4 w_k5 w_k6 w_k7 w_x w_T w_L w_P w_C w_M w_Q w_d w_F w_G w_r w_n w_m y3 = some 1 → BK X 8 177 15831 18 ([nX9 cI cZ cQ h_t (h_w 0) (h_b 0) (h_l 0) (h_H 0) (h_x 0) (h_T 0) (h_C 0) (h_d 0) (h_F 0) (h_r 0) (h_n 0) w_t, nX8 cI cZ cQ h_w w_w, nX8 cI cZ cQ h_b w_b, nX8 cI cZ cQ h_l w_l, nX2 cI cZ cQ h_H (hkf h_k0 h_k1 h_k2 h_k3 h_k4 h_k5 h_k6 h_k7) w_H, nX8 cI cZ cQ h_k0 w_k0, nX8 cI cZ cQ h_k1 w_k1, nX8 cI cZ cQ h_k2 w_k2, nX8 cI cZ cQ h_k3 w_k3, nX8 cI cZ cQ h_k4 w_k4, nX8 cI cZ cQ h_k5 w_k5, nX8 cI cZ cQ h_k6 w_k6, nX8 cI cZ cQ h_k7 w_k7, nX7 cI cZ cQ h_x w_x, nX6 cI cZ cQ h_T (h_w 0) (h_L 0) (h_P 0) w_T, nX4 cI cZ cQ h_L (h_w 0) w_L, nX4 cI cZ cQ h_P (h_w 0) w_P, nX6 cI cZ cQ h_C (h_w 0) (h_M 0) (h_Q 0) w_C, nX4 cI cZ cQ h_M (h_w 0) w_M, nX4 cI cZ cQ h_Q (h_w 0) w_Q, nX0 cI cZ cQ h_d (h_w 0) (h_T 0) w_d, nX1 cI cZ cQ h_F (h_G 0) w_F, nX4 cI cZ cQ h_G (h_w 0) w_G, nX5 cI cZ cQ h_r (h_w 0) w_r, nX3 cI cZ cQ h_n (h_w 0) w_n, nX10 cI cZ cQ h_m w_m]) [(0, .ref bS), (1, .ref (h_t 0)), (2, .ref (h_m 0)), (3, .int y3)] []) : ∀ (w_t : Pk) (w_w : Pk) (w_b : Pk) (w_l : Pk) (w_H : Pk) (w_k0 : Pk) (w_k1 : Pk) (w_k2 : Pk) (w_k3 : Pk) (w_k4 : Pk) (w_k5 : Pk) (w_k6 : Pk) (w_k7 : Pk) (w_x : Pk) (w_T : Pk) (w_L : Pk) (w_P : Pk) (w_C : Pk) (w_M : Pk) (w_Q : Pk) (w_d : Pk) (w_F : Pk) (w_G : Pk) (w_r : Pk) (w_n : Pk) (w_m : Pk) (y3 : Int32), fL_b1756 L xs rec18 w_t w_w w_b w_l w_H w_k0 w_k1 w_k2 w_k3 w_k4 w_k5 w_k6 w_k7 w_x w_T w_L w_P w_C w_M w_Q w_d w_F w_G w_r w_n w_m y3 = some 1 → BK X 8 177 15831 1756 ([nX9 cI cZ cQ h_t (h_w 0) (h_b 0) (h_l 0) (h_H 0) (h_x 0) (h_T 0) (h_C 0) (h_d 0) (h_F 0) (h_r 0) (h_n 0) w_t, nX8 cI cZ cQ h_w w_w, nX8 cI cZ cQ h_b w_b, nX8 cI cZ cQ h_l w_l, nX2 cI cZ cQ h_H (hkf h_k0 h_k1 h_k2 h_k3 h_k4 h_k5 h_k6 h_k7) w_H, nX8 cI cZ cQ h_k0 w_k0, nX8 cI cZ cQ h_k1 w_k1, nX8 cI cZ cQ h_k2 w_k2, nX8 cI cZ cQ h_k3 w_k3, nX8 cI cZ cQ h_k4 w_k4, nX8 cI cZ cQ h_k5 w_k5, nX8 cI cZ cQ h_k6 w_k6, nX8 cI cZ cQ h_k7 w_k7, nX7 cI cZ cQ h_x w_x, nX6 cI cZ cQ h_T (h_w 0) (h_L 0) (h_P 0) w_T, nX4 cI cZ cQ h_L (h_w 0) w_L, nX4 cI cZ cQ h_P (h_w 0) w_P, nX6 cI cZ cQ h_C (h_w 0) (h_M 0) (h_Q 0) w_C, nX4 cI cZ cQ h_M (h_w 0) w_M, nX4 cI cZ cQ h_Q (h_w 0) w_Q, nX0 cI cZ cQ h_d (h_w 0) (h_T 0) w_d, nX1 cI cZ cQ h_F (h_G 0) w_F, nX4 cI cZ cQ h_G (h_w 0) w_G, nX5 cI cZ cQ h_r (h_w 0) w_r, nX3 cI cZ cQ h_n (h_w 0) w_n, nX10 cI cZ cQ h_m w_m]) [(0, .ref bS), (1, .ref (h_t 0)), (2, .ref (h_m 0)), (3, .int y3)] [] := by
  intro w_t w_w w_b w_l w_H w_k0 w_k1 w_k2 w_k3 w_k4 w_k5 w_k6 w_k7 w_x w_T w_L w_P w_C w_M w_Q w_d w_F w_G w_r w_n w_m y3 hf
  unfold fL_b1756 at hf
  refine r_ald_n O 1757 rfl 1 rfl dL_law_1756 ?_
  obtain ⟨x1757, p1757_C, p1757_M, p1757_Q, hq1757, hf⟩ := qb4_some hf
  refine k_VI O 1760 rfl (zX9_bestWeights (l := xl X) (D := xD X) (cI := cI) (cZ := cZ) (cQ := cQ) (h_t := h_t) (h_w := h_w) (r_b := (h_b 0)) (r_l := (h_l 0)) (r_H := (h_H 0)) (r_x := (h_x 0)) (r_T := (h_T 0)) (h_C := h_C) (h_M := h_M) (h_Q := h_Q) (r_d := (h_d 0)) (r_F := (h_F 0)) (r_r := (h_r 0)) (r_n := (h_n 0)) hq1757) (gV mlL_203 mvX9_bestWeights izX9) rfl rfl rfl hdX9_bestWeights ⟨Nat.le_of_ble_eq_true rfl, Nat.le_of_ble_eq_true rfl⟩ rfl 0 rfl rfl rfl rfl (Nat.le_of_ble_eq_true rfl) ⟨Nat.le_of_ble_eq_true rfl, Nat.le_of_ble_eq_true rfl⟩ [0, 1, 17, 18, 19] rfl rfl rfl ([nX9 cI cZ cQ h_t (h_w 0) (h_b 0) (h_l 0) (h_H 0) (h_x 0) (h_T 0) (h_C 0) (h_d 0) (h_F 0) (h_r 0) (h_n 0) w_t, nX8 cI cZ cQ h_w w_w, nX8 cI cZ cQ h_b w_b, nX8 cI cZ cQ h_l w_l, nX2 cI cZ cQ h_H (hkf h_k0 h_k1 h_k2 h_k3 h_k4 h_k5 h_k6 h_k7) w_H, nX8 cI cZ cQ h_k0 w_k0, nX8 cI cZ cQ h_k1 w_k1, nX8 cI cZ cQ h_k2 w_k2, nX8 cI cZ cQ h_k3 w_k3, nX8 cI cZ cQ h_k4 w_k4, nX8 cI cZ cQ h_k5 w_k5, nX8 cI cZ cQ h_k6 w_k6, nX8 cI cZ cQ h_k7 w_k7, nX7 cI cZ cQ h_x w_x, nX6 cI cZ cQ h_T (h_w 0) (h_L 0) (h_P 0) w_T, nX4 cI cZ cQ h_L (h_w 0) w_L, nX4 cI cZ cQ h_P (h_w 0) w_P, nX6 cI cZ cQ h_C (h_w 0) (h_M 0) (h_Q 0) p1757_C, nX4 cI cZ cQ h_M (h_w 0) p1757_M, nX4 cI cZ cQ h_Q (h_w 0) p1757_Q, nX0 cI cZ cQ h_d (h_w 0) (h_T 0) w_d, nX1 cI cZ cQ h_F (h_G 0) w_F, nX4 cI cZ cQ h_G (h_w 0) w_G, nX5 cI cZ cQ h_r (h_w 0) w_r, nX3 cI cZ cQ h_n (h_w 0) w_n, nX10 cI cZ cQ h_m w_m]) rfl dL_law_1757 ?_
  refine r_ald_n O 1761 rfl 2 rfl dL_law_1760 ?_
  obtain ⟨x1761, p1761_m, hq1761, hf⟩ := qb2_some hf
  refine k_VI O 1764 rfl (zX10_bestWeights (l := xl X) (D := xD X) (cI := cI) (cZ := cZ) (cQ := cQ) (h_t := h_m) hq1761) (gV mlL_206 mvX10_bestWeights izX10) rfl rfl rfl hdX10_bestWeights ⟨Nat.le_of_ble_eq_true rfl, Nat.le_of_ble_eq_true rfl⟩ rfl 25 rfl rfl rfl rfl (Nat.le_of_ble_eq_true rfl) ⟨Nat.le_of_ble_eq_true rfl, Nat.le_of_ble_eq_true rfl⟩ [25] rfl rfl rfl ([nX9 cI cZ cQ h_t (h_w 0) (h_b 0) (h_l 0) (h_H 0) (h_x 0) (h_T 0) (h_C 0) (h_d 0) (h_F 0) (h_r 0) (h_n 0) w_t, nX8 cI cZ cQ h_w w_w, nX8 cI cZ cQ h_b w_b, nX8 cI cZ cQ h_l w_l, nX2 cI cZ cQ h_H (hkf h_k0 h_k1 h_k2 h_k3 h_k4 h_k5 h_k6 h_k7) w_H, nX8 cI cZ cQ h_k0 w_k0, nX8 cI cZ cQ h_k1 w_k1, nX8 cI cZ cQ h_k2 w_k2, nX8 cI cZ cQ h_k3 w_k3, nX8 cI cZ cQ h_k4 w_k4, nX8 cI cZ cQ h_k5 w_k5, nX8 cI cZ cQ h_k6 w_k6, nX8 cI cZ cQ h_k7 w_k7, nX7 cI cZ cQ h_x w_x, nX6 cI cZ cQ h_T (h_w 0) (h_L 0) (h_P 0) w_T, nX4 cI cZ cQ h_L (h_w 0) w_L, nX4 cI cZ cQ h_P (h_w 0) w_P, nX6 cI cZ cQ h_C (h_w 0) (h_M 0) (h_Q 0) p1757_C, nX4 cI cZ cQ h_M (h_w 0) p1757_M, nX4 cI cZ cQ h_Q (h_w 0) p1757_Q, nX0 cI cZ cQ h_d (h_w 0) (h_T 0) w_d, nX1 cI cZ cQ h_F (h_G 0) w_F, nX4 cI cZ cQ h_G (h_w 0) w_G, nX5 cI cZ cQ h_r (h_w 0) w_r, nX3 cI cZ cQ h_n (h_w 0) w_n, nX10 cI cZ cQ h_m p1761_m]) rfl dL_law_1761 ?_
  refine r_icmp_eq O 1767 rfl 1795 dL_law_1764 (by decide) (fun hc1764 => ?_) (fun hc1764 => ?_)
  · rw [if_pos hc1764] at hf
    exact lwB1795 O S E rec18 hrec18 _ _ _ _ _ _ _ _ _ _ _ _ _ _ _ _ _ _ _ _ _ _ _ _ _ _ _ hf
  · rw [if_neg hc1764] at hf
    refine r_ic O 1768 rfl 0 (by decide) dL_law_1767 ?_
    exact absurd (qe1 hf) (by decide)
set_option maxHeartbeats 40000000 in
set_option maxRecDepth 100000 in
theorem lwB483 {X : Cx} {cI cZ cQ : ClassId} {bS L : Nat} {xs : Nat → Int32} (O : OK X cL_law 8 RL wB room_1 cI cZ cQ) (S : SX X bS L xs) (E : ∀ {pc : Nat} {ws : List va_W} {lv : List (Nat × Value)}, decode cL_law pc = .ok (.ireturn, 1) → BK X 8 177 15831 pc ws lv [.int 1]) {h_t h_w h_b h_l h_H h_k0 h_k1 h_k2 h_k3 h_k4 h_k5 h_k6 h_k7 h_x h_T h_L h_P h_C h_M h_Q h_d h_F h_G h_r h_n h_m : Nat → Nat} (rec18 : Pk → Pk → Pk → Pk → Pk → Pk → Pk → Pk → Pk → Pk → Pk → Pk → Pk → Pk → Pk → Pk → Pk → Pk → Pk → Pk → Pk → Pk → Pk → Pk → Pk → Pk → Int32 → Option Int32) (hrec18 : ∀ (w_t : Pk) (w_w : Pk) (w_b : Pk) (w_l : Pk) (w_H : Pk) (w_k0 : Pk) (w_k1 : Pk) (w_k2 : Pk) (w_k3 : Pk) (w_k4 : Pk) (w_k5 : Pk) (w_k6 : Pk) (w_k7 : Pk) (w_x : Pk) (w_T : Pk) (w_L : Pk) (w_P : Pk) (w_C : Pk) (w_M : Pk) (w_Q : Pk) (w_d : Pk) (w_F : Pk) (w_G : Pk) (w_r : Pk) (w_n : Pk) (w_m : Pk) (y3 : Int32), rec18 w_t w_w w_b w_l w_H w_k0 w_k1 w_k2 w_k3 w_k4 w_k5 w_k6 w_k7 w_x w_T w_L w_P w_C w_M w_Q w_d w_F w_G w_r w_n w_m y3 = some 1 → BK X 8 177 15831 18 ([nX9 cI cZ cQ h_t (h_w 0) (h_b 0) (h_l 0) (h_H 0) (h_x 0) (h_T 0) (h_C 0) (h_d 0) (h_F 0) (h_r 0) (h_n 0) w_t, nX8 cI cZ cQ h_w w_w, nX8 cI cZ cQ h_b w_b, nX8 cI cZ cQ h_l w_l, nX2 cI cZ cQ h_H (hkf h_k0 h_k1 h_k2 h_k3 h_k4 h_k5 h_k6 h_k7) w_H, nX8 cI cZ cQ h_k0 w_k0, nX8 cI cZ cQ h_k1 w_k1, nX8 cI cZ cQ h_k2 w_k2, nX8 cI cZ cQ h_k3 w_k3, nX8 cI cZ cQ h_k4 w_k4, nX8 cI cZ cQ h_k5 w_k5, nX8 cI cZ cQ h_k6 w_k6, nX8 cI cZ cQ h_k7 w_k7, nX7 cI cZ cQ h_x w_x, nX6 cI cZ cQ h_T (h_w 0) (h_L 0) (h_P 0) w_T, nX4 cI cZ cQ h_L (h_w 0) w_L, nX4 cI cZ cQ h_P (h_w 0) w_P, nX6 cI cZ cQ h_C (h_w 0) (h_M 0) (h_Q 0) w_C, nX4 cI cZ cQ h_M (h_w 0) w_M, nX4 cI cZ cQ h_Q (h_w 0) w_Q, nX0 cI cZ cQ h_d (h_w 0) (h_T 0) w_d, nX1 cI cZ cQ h_F (h_G 0) w_F, nX4 cI cZ cQ h_G (h_w 0) w_G, nX5 cI cZ cQ h_r (h_w 0) w_r, nX3 cI cZ cQ h_n (h_w 0) w_n, nX10 cI cZ cQ h_m w_m]) [(0, .ref bS), (1, .ref (h_t 0)), (2, .ref (h_m 0)), (3, .int y3)] []) : ∀ (w_t : Pk) (w_w : Pk) (w_b : Pk) (w_l : Pk) (w_H : Pk) (w_k0 : Pk) (w_k1 : Pk) (w_k2 : Pk) (w_k3 : Pk) (w_k4 : Pk) (w_k5 : Pk) (w_k6 : Pk) (w_k7 : Pk) (w_x : Pk) (w_T : Pk) (w_L : Pk) (w_P : Pk) (w_C : Pk) (w_M : Pk) (w_Q : Pk) (w_d : Pk) (w_F : Pk) (w_G : Pk) (w_r : Pk) (w_n : Pk) (w_m : Pk) (y3 : Int32), fL_b483 L xs rec18 w_t w_w w_b w_l w_H w_k0 w_k1 w_k2 w_k3 w_k4 w_k5 w_k6 w_k7 w_x w_T w_L w_P w_C w_M w_Q w_d w_F w_G w_r w_n w_m y3 = some 1 → BK X 8 177 15831 483 ([nX9 cI cZ cQ h_t (h_w 0) (h_b 0) (h_l 0) (h_H 0) (h_x 0) (h_T 0) (h_C 0) (h_d 0) (h_F 0) (h_r 0) (h_n 0) w_t, nX8 cI cZ cQ h_w w_w, nX8 cI cZ cQ h_b w_b, nX8 cI cZ cQ h_l w_l, nX2 cI cZ cQ h_H (hkf h_k0 h_k1 h_k2 h_k3 h_k4 h_k5 h_k6 h_k7) w_H, nX8 cI cZ cQ h_k0 w_k0, nX8 cI cZ cQ h_k1 w_k1, nX8 cI cZ cQ h_k2 w_k2, nX8 cI cZ cQ h_k3 w_k3, nX8 cI cZ cQ h_k4 w_k4, nX8 cI cZ cQ h_k5 w_k5, nX8 cI cZ cQ h_k6 w_k6, nX8 cI cZ cQ h_k7 w_k7, nX7 cI cZ cQ h_x w_x, nX6 cI cZ cQ h_T (h_w 0) (h_L 0) (h_P 0) w_T, nX4 cI cZ cQ h_L (h_w 0) w_L, nX4 cI cZ cQ h_P (h_w 0) w_P, nX6 cI cZ cQ h_C (h_w 0) (h_M 0) (h_Q 0) w_C, nX4 cI cZ cQ h_M (h_w 0) w_M, nX4 cI cZ cQ h_Q (h_w 0) w_Q, nX0 cI cZ cQ h_d (h_w 0) (h_T 0) w_d, nX1 cI cZ cQ h_F (h_G 0) w_F, nX4 cI cZ cQ h_G (h_w 0) w_G, nX5 cI cZ cQ h_r (h_w 0) w_r, nX3 cI cZ cQ h_n (h_w 0) w_n, nX10 cI cZ cQ h_m w_m]) [(0, .ref bS), (1, .ref (h_t 0)), (2, .ref (h_m 0)), (3, .int y3)] [] := by
  intro w_t w_w w_b w_l w_H w_k0 w_k1 w_k2 w_k3 w_k4 w_k5 w_k6 w_k7 w_x w_T w_L w_P w_C w_M w_Q w_d w_F w_G w_r w_n w_m y3 hf
  unfold fL_b483 at hf
  refine r_ald_n O 484 rfl 1 rfl dL_law_483 ?_
  obtain ⟨x484, hq484, hf⟩ := qb1_some hf
  refine k_VI O 487 rfl (zX9_wallCount (l := xl X) (D := xD X) (cI := cI) (cZ := cZ) (cQ := cQ) (h_t := h_t) (h_w := h_w) (r_b := (h_b 0)) (r_l := (h_l 0)) (r_H := (h_H 0)) (r_x := (h_x 0)) (r_T := (h_T 0)) (r_C := (h_C 0)) (r_d := (h_d 0)) (r_F := (h_F 0)) (r_r := (h_r 0)) (r_n := (h_n 0)) hq484) (gV mlL_46 mvX9_wallCount izX9) rfl rfl rfl hdX9_wallCount ⟨Nat.le_of_ble_eq_true rfl, Nat.le_of_ble_eq_true rfl⟩ rfl 0 rfl rfl rfl rfl (Nat.le_of_ble_eq_true rfl) ⟨Nat.le_of_ble_eq_true rfl, Nat.le_of_ble_eq_true rfl⟩ [0, 1] rfl rfl rfl ([nX9 cI cZ cQ h_t (h_w 0) (h_b 0) (h_l 0) (h_H 0) (h_x 0) (h_T 0) (h_C 0) (h_d 0) (h_F 0) (h_r 0) (h_n 0) w_t, nX8 cI cZ cQ h_w w_w, nX8 cI cZ cQ h_b w_b, nX8 cI cZ cQ h_l w_l, nX2 cI cZ cQ h_H (hkf h_k0 h_k1 h_k2 h_k3 h_k4 h_k5 h_k6 h_k7) w_H, nX8 cI cZ cQ h_k0 w_k0, nX8 cI cZ cQ h_k1 w_k1, nX8 cI cZ cQ h_k2 w_k2, nX8 cI cZ cQ h_k3 w_k3, nX8 cI cZ cQ h_k4 w_k4, nX8 cI cZ cQ h_k5 w_k5, nX8 cI cZ cQ h_k6 w_k6, nX8 cI cZ cQ h_k7 w_k7, nX7 cI cZ cQ h_x w_x, nX6 cI cZ cQ h_T (h_w 0) (h_L 0) (h_P 0) w_T, nX4 cI cZ cQ h_L (h_w 0) w_L, nX4 cI cZ cQ h_P (h_w 0) w_P, nX6 cI cZ cQ h_C (h_w 0) (h_M 0) (h_Q 0) w_C, nX4 cI cZ cQ h_M (h_w 0) w_M, nX4 cI cZ cQ h_Q (h_w 0) w_Q, nX0 cI cZ cQ h_d (h_w 0) (h_T 0) w_d, nX1 cI cZ cQ h_F (h_G 0) w_F, nX4 cI cZ cQ h_G (h_w 0) w_G, nX5 cI cZ cQ h_r (h_w 0) w_r, nX3 cI cZ cQ h_n (h_w 0) w_n, nX10 cI cZ cQ h_m w_m]) rfl dL_law_484 ?_
  refine r_ald_n O 488 rfl 2 rfl dL_law_487 ?_
  obtain ⟨x488, hq488, hf⟩ := qb1_some hf
  refine k_VI O 491 rfl (zX10_wallCount (l := xl X) (D := xD X) (cI := cI) (cZ := cZ) (cQ := cQ) (h_t := h_m) hq488) (gV mlL_49 mvX10_wallCount izX10) rfl rfl rfl hdX10_wallCount ⟨Nat.le_of_ble_eq_true rfl, Nat.le_of_ble_eq_true rfl⟩ rfl 25 rfl rfl rfl rfl (Nat.le_of_ble_eq_true rfl) ⟨Nat.le_of_ble_eq_true rfl, Nat.le_of_ble_eq_true rfl⟩ [25] rfl rfl rfl ([nX9 cI cZ cQ h_t (h_w 0) (h_b 0) (h_l 0) (h_H 0) (h_x 0) (h_T 0) (h_C 0) (h_d 0) (h_F 0) (h_r 0) (h_n 0) w_t, nX8 cI cZ cQ h_w w_w, nX8 cI cZ cQ h_b w_b, nX8 cI cZ cQ h_l w_l, nX2 cI cZ cQ h_H (hkf h_k0 h_k1 h_k2 h_k3 h_k4 h_k5 h_k6 h_k7) w_H, nX8 cI cZ cQ h_k0 w_k0, nX8 cI cZ cQ h_k1 w_k1, nX8 cI cZ cQ h_k2 w_k2, nX8 cI cZ cQ h_k3 w_k3, nX8 cI cZ cQ h_k4 w_k4, nX8 cI cZ cQ h_k5 w_k5, nX8 cI cZ cQ h_k6 w_k6, nX8 cI cZ cQ h_k7 w_k7, nX7 cI cZ cQ h_x w_x, nX6 cI cZ cQ h_T (h_w 0) (h_L 0) (h_P 0) w_T, nX4 cI cZ cQ h_L (h_w 0) w_L, nX4 cI cZ cQ h_P (h_w 0) w_P, nX6 cI cZ cQ h_C (h_w 0) (h_M 0) (h_Q 0) w_C, nX4 cI cZ cQ h_M (h_w 0) w_M, nX4 cI cZ cQ h_Q (h_w 0) w_Q, nX0 cI cZ cQ h_d (h_w 0) (h_T 0) w_d, nX1 cI cZ cQ h_F (h_G 0) w_F, nX4 cI cZ cQ h_G (h_w 0) w_G, nX5 cI cZ cQ h_r (h_w 0) w_r, nX3 cI cZ cQ h_n (h_w 0) w_n, nX10 cI cZ cQ h_m w_m]) rfl dL_law_488 ?_
  refine r_icmp_eq O 494 rfl 1795 dL_law_491 (by decide) (fun hc491 => ?_) (fun hc491 => ?_)
  · rw [if_pos hc491] at hf
    exact lwB1795 O S E rec18 hrec18 _ _ _ _ _ _ _ _ _ _ _ _ _ _ _ _ _ _ _ _ _ _ _ _ _ _ _ hf
  · rw [if_neg hc491] at hf
    refine r_ic O 495 rfl 0 (by decide) dL_law_494 ?_
    exact absurd (qe1 hf) (by decide)
set_option maxHeartbeats 40000000 in
set_option maxRecDepth 100000 in
theorem lwB614 {X : Cx} {cI cZ cQ : ClassId} {bS L : Nat} {xs : Nat → Int32} (O : OK X cL_law 8 RL wB room_1 cI cZ cQ) (S : SX X bS L xs) (E : ∀ {pc : Nat} {ws : List va_W} {lv : List (Nat × Value)}, decode cL_law pc = .ok (.ireturn, 1) → BK X 8 177 15831 pc ws lv [.int 1]) {h_t h_w h_b h_l h_H h_k0 h_k1 h_k2 h_k3 h_k4 h_k5 h_k6 h_k7 h_x h_T h_L h_P h_C h_M h_Q h_d h_F h_G h_r h_n h_m : Nat → Nat} (rec18 : Pk → Pk → Pk → Pk → Pk → Pk → Pk → Pk → Pk → Pk → Pk → Pk → Pk → Pk → Pk → Pk → Pk → Pk → Pk → Pk → Pk → Pk → Pk → Pk → Pk → Pk → Int32 → Option Int32) (hrec18 : ∀ (w_t : Pk) (w_w : Pk) (w_b : Pk) (w_l : Pk) (w_H : Pk) (w_k0 : Pk) (w_k1 : Pk) (w_k2 : Pk) (w_k3 : Pk) (w_k4 : Pk) (w_k5 : Pk) (w_k6 : Pk) (w_k7 : Pk) (w_x : Pk) (w_T : Pk) (w_L : Pk) (w_P : Pk) (w_C : Pk) (w_M : Pk) (w_Q : Pk) (w_d : Pk) (w_F : Pk) (w_G : Pk) (w_r : Pk) (w_n : Pk) (w_m : Pk) (y3 : Int32), rec18 w_t w_w w_b w_l w_H w_k0 w_k1 w_k2 w_k3 w_k4 w_k5 w_k6 w_k7 w_x w_T w_L w_P w_C w_M w_Q w_d w_F w_G w_r w_n w_m y3 = some 1 → BK X 8 177 15831 18 ([nX9 cI cZ cQ h_t (h_w 0) (h_b 0) (h_l 0) (h_H 0) (h_x 0) (h_T 0) (h_C 0) (h_d 0) (h_F 0) (h_r 0) (h_n 0) w_t, nX8 cI cZ cQ h_w w_w, nX8 cI cZ cQ h_b w_b, nX8 cI cZ cQ h_l w_l, nX2 cI cZ cQ h_H (hkf h_k0 h_k1 h_k2 h_k3 h_k4 h_k5 h_k6 h_k7) w_H, nX8 cI cZ cQ h_k0 w_k0, nX8 cI cZ cQ h_k1 w_k1, nX8 cI cZ cQ h_k2 w_k2, nX8 cI cZ cQ h_k3 w_k3, nX8 cI cZ cQ h_k4 w_k4, nX8 cI cZ cQ h_k5 w_k5, nX8 cI cZ cQ h_k6 w_k6, nX8 cI cZ cQ h_k7 w_k7, nX7 cI cZ cQ h_x w_x, nX6 cI cZ cQ h_T (h_w 0) (h_L 0) (h_P 0) w_T, nX4 cI cZ cQ h_L (h_w 0) w_L, nX4 cI cZ cQ h_P (h_w 0) w_P, nX6 cI cZ cQ h_C (h_w 0) (h_M 0) (h_Q 0) w_C, nX4 cI cZ cQ h_M (h_w 0) w_M, nX4 cI cZ cQ h_Q (h_w 0) w_Q, nX0 cI cZ cQ h_d (h_w 0) (h_T 0) w_d, nX1 cI cZ cQ h_F (h_G 0) w_F, nX4 cI cZ cQ h_G (h_w 0) w_G, nX5 cI cZ cQ h_r (h_w 0) w_r, nX3 cI cZ cQ h_n (h_w 0) w_n, nX10 cI cZ cQ h_m w_m]) [(0, .ref bS), (1, .ref (h_t 0)), (2, .ref (h_m 0)), (3, .int y3)] []) : ∀ (w_t : Pk) (w_w : Pk) (w_b : Pk) (w_l : Pk) (w_H : Pk) (w_k0 : Pk) (w_k1 : Pk) (w_k2 : Pk) (w_k3 : Pk) (w_k4 : Pk) (w_k5 : Pk) (w_k6 : Pk) (w_k7 : Pk) (w_x : Pk) (w_T : Pk) (w_L : Pk) (w_P : Pk) (w_C : Pk) (w_M : Pk) (w_Q : Pk) (w_d : Pk) (w_F : Pk) (w_G : Pk) (w_r : Pk) (w_n : Pk) (w_m : Pk) (y3 : Int32), fL_b614 L xs rec18 w_t w_w w_b w_l w_H w_k0 w_k1 w_k2 w_k3 w_k4 w_k5 w_k6 w_k7 w_x w_T w_L w_P w_C w_M w_Q w_d w_F w_G w_r w_n w_m y3 = some 1 → BK X 8 177 15831 614 ([nX9 cI cZ cQ h_t (h_w 0) (h_b 0) (h_l 0) (h_H 0) (h_x 0) (h_T 0) (h_C 0) (h_d 0) (h_F 0) (h_r 0) (h_n 0) w_t, nX8 cI cZ cQ h_w w_w, nX8 cI cZ cQ h_b w_b, nX8 cI cZ cQ h_l w_l, nX2 cI cZ cQ h_H (hkf h_k0 h_k1 h_k2 h_k3 h_k4 h_k5 h_k6 h_k7) w_H, nX8 cI cZ cQ h_k0 w_k0, nX8 cI cZ cQ h_k1 w_k1, nX8 cI cZ cQ h_k2 w_k2, nX8 cI cZ cQ h_k3 w_k3, nX8 cI cZ cQ h_k4 w_k4, nX8 cI cZ cQ h_k5 w_k5, nX8 cI cZ cQ h_k6 w_k6, nX8 cI cZ cQ h_k7 w_k7, nX7 cI cZ cQ h_x w_x, nX6 cI cZ cQ h_T (h_w 0) (h_L 0) (h_P 0) w_T, nX4 cI cZ cQ h_L (h_w 0) w_L, nX4 cI cZ cQ h_P (h_w 0) w_P, nX6 cI cZ cQ h_C (h_w 0) (h_M 0) (h_Q 0) w_C, nX4 cI cZ cQ h_M (h_w 0) w_M, nX4 cI cZ cQ h_Q (h_w 0) w_Q, nX0 cI cZ cQ h_d (h_w 0) (h_T 0) w_d, nX1 cI cZ cQ h_F (h_G 0) w_F, nX4 cI cZ cQ h_G (h_w 0) w_G, nX5 cI cZ cQ h_r (h_w 0) w_r, nX3 cI cZ cQ h_n (h_w 0) w_n, nX10 cI cZ cQ h_m w_m]) [(0, .ref bS), (1, .ref (h_t 0)), (2, .ref (h_m 0)), (3, .int y3)] [] := by
  intro w_t w_w w_b w_l w_H w_k0 w_k1 w_k2 w_k3 w_k4 w_k5 w_k6 w_k7 w_x w_T w_L w_P w_C w_M w_Q w_d w_F w_G w_r w_n w_m y3 hf
  unfold fL_b614 at hf
  refine r_ald_n O 615 rfl 1 rfl dL_law_614 ?_
  obtain ⟨x615, hq615, hf⟩ := qb1_some hf
  refine k_VI O 618 rfl (zX9_faultPlace (l := xl X) (D := xD X) (cI := cI) (cZ := cZ) (cQ := cQ) (h_t := h_t) (r_w := (h_w 0)) (r_b := (h_b 0)) (r_l := (h_l 0)) (r_H := (h_H 0)) (h_x := h_x) (r_T := (h_T 0)) (r_C := (h_C 0)) (r_d := (h_d 0)) (r_F := (h_F 0)) (r_r := (h_r 0)) (r_n := (h_n 0)) hq615) (gV mlL_74 mvX9_faultPlace izX9) rfl rfl rfl hdX9_faultPlace ⟨Nat.le_of_ble_eq_true rfl, Nat.le_of_ble_eq_true rfl⟩ rfl 0 rfl rfl rfl rfl (Nat.le_of_ble_eq_true rfl) ⟨Nat.le_of_ble_eq_true rfl, Nat.le_of_ble_eq_true rfl⟩ [0, 13] rfl rfl rfl ([nX9 cI cZ cQ h_t (h_w 0) (h_b 0) (h_l 0) (h_H 0) (h_x 0) (h_T 0) (h_C 0) (h_d 0) (h_F 0) (h_r 0) (h_n 0) w_t, nX8 cI cZ cQ h_w w_w, nX8 cI cZ cQ h_b w_b, nX8 cI cZ cQ h_l w_l, nX2 cI cZ cQ h_H (hkf h_k0 h_k1 h_k2 h_k3 h_k4 h_k5 h_k6 h_k7) w_H, nX8 cI cZ cQ h_k0 w_k0, nX8 cI cZ cQ h_k1 w_k1, nX8 cI cZ cQ h_k2 w_k2, nX8 cI cZ cQ h_k3 w_k3, nX8 cI cZ cQ h_k4 w_k4, nX8 cI cZ cQ h_k5 w_k5, nX8 cI cZ cQ h_k6 w_k6, nX8 cI cZ cQ h_k7 w_k7, nX7 cI cZ cQ h_x w_x, nX6 cI cZ cQ h_T (h_w 0) (h_L 0) (h_P 0) w_T, nX4 cI cZ cQ h_L (h_w 0) w_L, nX4 cI cZ cQ h_P (h_w 0) w_P, nX6 cI cZ cQ h_C (h_w 0) (h_M 0) (h_Q 0) w_C, nX4 cI cZ cQ h_M (h_w 0) w_M, nX4 cI cZ cQ h_Q (h_w 0) w_Q, nX0 cI cZ cQ h_d (h_w 0) (h_T 0) w_d, nX1 cI cZ cQ h_F (h_G 0) w_F, nX4 cI cZ cQ h_G (h_w 0) w_G, nX5 cI cZ cQ h_r (h_w 0) w_r, nX3 cI cZ cQ h_n (h_w 0) w_n, nX10 cI cZ cQ h_m w_m]) rfl dL_law_615 ?_
  refine r_ald_n O 619 rfl 2 rfl dL_law_618 ?_
  obtain ⟨x619, hq619, hf⟩ := qb1_some hf
  refine k_VI O 622 rfl (zX10_faultPlace (l := xl X) (D := xD X) (cI := cI) (cZ := cZ) (cQ := cQ) (h_t := h_m) hq619) (gV mlL_77 mvX10_faultPlace izX10) rfl rfl rfl hdX10_faultPlace ⟨Nat.le_of_ble_eq_true rfl, Nat.le_of_ble_eq_true rfl⟩ rfl 25 rfl rfl rfl rfl (Nat.le_of_ble_eq_true rfl) ⟨Nat.le_of_ble_eq_true rfl, Nat.le_of_ble_eq_true rfl⟩ [25] rfl rfl rfl ([nX9 cI cZ cQ h_t (h_w 0) (h_b 0) (h_l 0) (h_H 0) (h_x 0) (h_T 0) (h_C 0) (h_d 0) (h_F 0) (h_r 0) (h_n 0) w_t, nX8 cI cZ cQ h_w w_w, nX8 cI cZ cQ h_b w_b, nX8 cI cZ cQ h_l w_l, nX2 cI cZ cQ h_H (hkf h_k0 h_k1 h_k2 h_k3 h_k4 h_k5 h_k6 h_k7) w_H, nX8 cI cZ cQ h_k0 w_k0, nX8 cI cZ cQ h_k1 w_k1, nX8 cI cZ cQ h_k2 w_k2, nX8 cI cZ cQ h_k3 w_k3, nX8 cI cZ cQ h_k4 w_k4, nX8 cI cZ cQ h_k5 w_k5, nX8 cI cZ cQ h_k6 w_k6, nX8 cI cZ cQ h_k7 w_k7, nX7 cI cZ cQ h_x w_x, nX6 cI cZ cQ h_T (h_w 0) (h_L 0) (h_P 0) w_T, nX4 cI cZ cQ h_L (h_w 0) w_L, nX4 cI cZ cQ h_P (h_w 0) w_P, nX6 cI cZ cQ h_C (h_w 0) (h_M 0) (h_Q 0) w_C, nX4 cI cZ cQ h_M (h_w 0) w_M, nX4 cI cZ cQ h_Q (h_w 0) w_Q, nX0 cI cZ cQ h_d (h_w 0) (h_T 0) w_d, nX1 cI cZ cQ h_F (h_G 0) w_F, nX4 cI cZ cQ h_G (h_w 0) w_G, nX5 cI cZ cQ h_r (h_w 0) w_r, nX3 cI cZ cQ h_n (h_w 0) w_n, nX10 cI cZ cQ h_m w_m]) rfl dL_law_619 ?_
  refine r_icmp_eq O 625 rfl 1795 dL_law_622 (by decide) (fun hc622 => ?_) (fun hc622 => ?_)
  · rw [if_pos hc622] at hf
    exact lwB1795 O S E rec18 hrec18 _ _ _ _ _ _ _ _ _ _ _ _ _ _ _ _ _ _ _ _ _ _ _ _ _ _ _ hf
  · rw [if_neg hc622] at hf
    refine r_ic O 626 rfl 0 (by decide) dL_law_625 ?_
    exact absurd (qe1 hf) (by decide)
set_option maxHeartbeats 40000000 in
set_option maxRecDepth 100000 in
theorem lwB745 {X : Cx} {cI cZ cQ : ClassId} {bS L : Nat} {xs : Nat → Int32} (O : OK X cL_law 8 RL wB room_1 cI cZ cQ) (S : SX X bS L xs) (E : ∀ {pc : Nat} {ws : List va_W} {lv : List (Nat × Value)}, decode cL_law pc = .ok (.ireturn, 1) → BK X 8 177 15831 pc ws lv [.int 1]) {h_t h_w h_b h_l h_H h_k0 h_k1 h_k2 h_k3 h_k4 h_k5 h_k6 h_k7 h_x h_T h_L h_P h_C h_M h_Q h_d h_F h_G h_r h_n h_m : Nat → Nat} (rec18 : Pk → Pk → Pk → Pk → Pk → Pk → Pk → Pk → Pk → Pk → Pk → Pk → Pk → Pk → Pk → Pk → Pk → Pk → Pk → Pk → Pk → Pk → Pk → Pk → Pk → Pk → Int32 → Option Int32) (hrec18 : ∀ (w_t : Pk) (w_w : Pk) (w_b : Pk) (w_l : Pk) (w_H : Pk) (w_k0 : Pk) (w_k1 : Pk) (w_k2 : Pk) (w_k3 : Pk) (w_k4 : Pk) (w_k5 : Pk) (w_k6 : Pk) (w_k7 : Pk) (w_x : Pk) (w_T : Pk) (w_L : Pk) (w_P : Pk) (w_C : Pk) (w_M : Pk) (w_Q : Pk) (w_d : Pk) (w_F : Pk) (w_G : Pk) (w_r : Pk) (w_n : Pk) (w_m : Pk) (y3 : Int32), rec18 w_t w_w w_b w_l w_H w_k0 w_k1 w_k2 w_k3 w_k4 w_k5 w_k6 w_k7 w_x w_T w_L w_P w_C w_M w_Q w_d w_F w_G w_r w_n w_m y3 = some 1 → BK X 8 177 15831 18 ([nX9 cI cZ cQ h_t (h_w 0) (h_b 0) (h_l 0) (h_H 0) (h_x 0) (h_T 0) (h_C 0) (h_d 0) (h_F 0) (h_r 0) (h_n 0) w_t, nX8 cI cZ cQ h_w w_w, nX8 cI cZ cQ h_b w_b, nX8 cI cZ cQ h_l w_l, nX2 cI cZ cQ h_H (hkf h_k0 h_k1 h_k2 h_k3 h_k4 h_k5 h_k6 h_k7) w_H, nX8 cI cZ cQ h_k0 w_k0, nX8 cI cZ cQ h_k1 w_k1, nX8 cI cZ cQ h_k2 w_k2, nX8 cI cZ cQ h_k3 w_k3, nX8 cI cZ cQ h_k4 w_k4, nX8 cI cZ cQ h_k5 w_k5, nX8 cI cZ cQ h_k6 w_k6, nX8 cI cZ cQ h_k7 w_k7, nX7 cI cZ cQ h_x w_x, nX6 cI cZ cQ h_T (h_w 0) (h_L 0) (h_P 0) w_T, nX4 cI cZ cQ h_L (h_w 0) w_L, nX4 cI cZ cQ h_P (h_w 0) w_P, nX6 cI cZ cQ h_C (h_w 0) (h_M 0) (h_Q 0) w_C, nX4 cI cZ cQ h_M (h_w 0) w_M, nX4 cI cZ cQ h_Q (h_w 0) w_Q, nX0 cI cZ cQ h_d (h_w 0) (h_T 0) w_d, nX1 cI cZ cQ h_F (h_G 0) w_F, nX4 cI cZ cQ h_G (h_w 0) w_G, nX5 cI cZ cQ h_r (h_w 0) w_r, nX3 cI cZ cQ h_n (h_w 0) w_n, nX10 cI cZ cQ h_m w_m]) [(0, .ref bS), (1, .ref (h_t 0)), (2, .ref (h_m 0)), (3, .int y3)] []) : ∀ (w_t : Pk) (w_w : Pk) (w_b : Pk) (w_l : Pk) (w_H : Pk) (w_k0 : Pk) (w_k1 : Pk) (w_k2 : Pk) (w_k3 : Pk) (w_k4 : Pk) (w_k5 : Pk) (w_k6 : Pk) (w_k7 : Pk) (w_x : Pk) (w_T : Pk) (w_L : Pk) (w_P : Pk) (w_C : Pk) (w_M : Pk) (w_Q : Pk) (w_d : Pk) (w_F : Pk) (w_G : Pk) (w_r : Pk) (w_n : Pk) (w_m : Pk) (y3 : Int32), fL_b745 L xs rec18 w_t w_w w_b w_l w_H w_k0 w_k1 w_k2 w_k3 w_k4 w_k5 w_k6 w_k7 w_x w_T w_L w_P w_C w_M w_Q w_d w_F w_G w_r w_n w_m y3 = some 1 → BK X 8 177 15831 745 ([nX9 cI cZ cQ h_t (h_w 0) (h_b 0) (h_l 0) (h_H 0) (h_x 0) (h_T 0) (h_C 0) (h_d 0) (h_F 0) (h_r 0) (h_n 0) w_t, nX8 cI cZ cQ h_w w_w, nX8 cI cZ cQ h_b w_b, nX8 cI cZ cQ h_l w_l, nX2 cI cZ cQ h_H (hkf h_k0 h_k1 h_k2 h_k3 h_k4 h_k5 h_k6 h_k7) w_H, nX8 cI cZ cQ h_k0 w_k0, nX8 cI cZ cQ h_k1 w_k1, nX8 cI cZ cQ h_k2 w_k2, nX8 cI cZ cQ h_k3 w_k3, nX8 cI cZ cQ h_k4 w_k4, nX8 cI cZ cQ h_k5 w_k5, nX8 cI cZ cQ h_k6 w_k6, nX8 cI cZ cQ h_k7 w_k7, nX7 cI cZ cQ h_x w_x, nX6 cI cZ cQ h_T (h_w 0) (h_L 0) (h_P 0) w_T, nX4 cI cZ cQ h_L (h_w 0) w_L, nX4 cI cZ cQ h_P (h_w 0) w_P, nX6 cI cZ cQ h_C (h_w 0) (h_M 0) (h_Q 0) w_C, nX4 cI cZ cQ h_M (h_w 0) w_M, nX4 cI cZ cQ h_Q (h_w 0) w_Q, nX0 cI cZ cQ h_d (h_w 0) (h_T 0) w_d, nX1 cI cZ cQ h_F (h_G 0) w_F, nX4 cI cZ cQ h_G (h_w 0) w_G, nX5 cI cZ cQ h_r (h_w 0) w_r, nX3 cI cZ cQ h_n (h_w 0) w_n, nX10 cI cZ cQ h_m w_m]) [(0, .ref bS), (1, .ref (h_t 0)), (2, .ref (h_m 0)), (3, .int y3)] [] := by
  intro w_t w_w w_b w_l w_H w_k0 w_k1 w_k2 w_k3 w_k4 w_k5 w_k6 w_k7 w_x w_T w_L w_P w_C w_M w_Q w_d w_F w_G w_r w_n w_m y3 hf
  unfold fL_b745 at hf
  refine r_ald_n O 746 rfl 1 rfl dL_law_745 ?_
  obtain ⟨x746, p746_t, p746_b, p746_T, p746_L, p746_P, hq746, hf⟩ := qb6_some hf
  refine k_VI O 749 rfl (zX9_pieceCount (l := xl X) (D := xD X) (cI := cI) (cZ := cZ) (cQ := cQ) (h_t := h_t) (h_w := h_w) (h_b := h_b) (r_l := (h_l 0)) (r_H := (h_H 0)) (r_x := (h_x 0)) (h_T := h_T) (h_L := h_L) (h_P := h_P) (r_C := (h_C 0)) (r_d := (h_d 0)) (r_F := (h_F 0)) (r_r := (h_r 0)) (r_n := (h_n 0)) hq746) (gV mlL_102 mvX9_pieceCount izX9) rfl rfl rfl hdX9_pieceCount ⟨Nat.le_of_ble_eq_true rfl, Nat.le_of_ble_eq_true rfl⟩ rfl 0 rfl rfl rfl rfl (Nat.le_of_ble_eq_true rfl) ⟨Nat.le_of_ble_eq_true rfl, Nat.le_of_ble_eq_true rfl⟩ [0, 1, 2, 14, 15, 16] rfl rfl rfl ([nX9 cI cZ cQ h_t (h_w 0) (h_b 0) (h_l 0) (h_H 0) (h_x 0) (h_T 0) (h_C 0) (h_d 0) (h_F 0) (h_r 0) (h_n 0) p746_t, nX8 cI cZ cQ h_w w_w, nX8 cI cZ cQ h_b p746_b, nX8 cI cZ cQ h_l w_l, nX2 cI cZ cQ h_H (hkf h_k0 h_k1 h_k2 h_k3 h_k4 h_k5 h_k6 h_k7) w_H, nX8 cI cZ cQ h_k0 w_k0, nX8 cI cZ cQ h_k1 w_k1, nX8 cI cZ cQ h_k2 w_k2, nX8 cI cZ cQ h_k3 w_k3, nX8 cI cZ cQ h_k4 w_k4, nX8 cI cZ cQ h_k5 w_k5, nX8 cI cZ cQ h_k6 w_k6, nX8 cI cZ cQ h_k7 w_k7, nX7 cI cZ cQ h_x w_x, nX6 cI cZ cQ h_T (h_w 0) (h_L 0) (h_P 0) p746_T, nX4 cI cZ cQ h_L (h_w 0) p746_L, nX4 cI cZ cQ h_P (h_w 0) p746_P, nX6 cI cZ cQ h_C (h_w 0) (h_M 0) (h_Q 0) w_C, nX4 cI cZ cQ h_M (h_w 0) w_M, nX4 cI cZ cQ h_Q (h_w 0) w_Q, nX0 cI cZ cQ h_d (h_w 0) (h_T 0) w_d, nX1 cI cZ cQ h_F (h_G 0) w_F, nX4 cI cZ cQ h_G (h_w 0) w_G, nX5 cI cZ cQ h_r (h_w 0) w_r, nX3 cI cZ cQ h_n (h_w 0) w_n, nX10 cI cZ cQ h_m w_m]) rfl dL_law_746 ?_
  refine r_ald_n O 750 rfl 2 rfl dL_law_749 ?_
  obtain ⟨x750, p750_m, hq750, hf⟩ := qb2_some hf
  refine k_VI O 753 rfl (zX10_pieceCount (l := xl X) (D := xD X) (cI := cI) (cZ := cZ) (cQ := cQ) (h_t := h_m) hq750) (gV mlL_105 mvX10_pieceCount izX10) rfl rfl rfl hdX10_pieceCount ⟨Nat.le_of_ble_eq_true rfl, Nat.le_of_ble_eq_true rfl⟩ rfl 25 rfl rfl rfl rfl (Nat.le_of_ble_eq_true rfl) ⟨Nat.le_of_ble_eq_true rfl, Nat.le_of_ble_eq_true rfl⟩ [25] rfl rfl rfl ([nX9 cI cZ cQ h_t (h_w 0) (h_b 0) (h_l 0) (h_H 0) (h_x 0) (h_T 0) (h_C 0) (h_d 0) (h_F 0) (h_r 0) (h_n 0) p746_t, nX8 cI cZ cQ h_w w_w, nX8 cI cZ cQ h_b p746_b, nX8 cI cZ cQ h_l w_l, nX2 cI cZ cQ h_H (hkf h_k0 h_k1 h_k2 h_k3 h_k4 h_k5 h_k6 h_k7) w_H, nX8 cI cZ cQ h_k0 w_k0, nX8 cI cZ cQ h_k1 w_k1, nX8 cI cZ cQ h_k2 w_k2, nX8 cI cZ cQ h_k3 w_k3, nX8 cI cZ cQ h_k4 w_k4, nX8 cI cZ cQ h_k5 w_k5, nX8 cI cZ cQ h_k6 w_k6, nX8 cI cZ cQ h_k7 w_k7, nX7 cI cZ cQ h_x w_x, nX6 cI cZ cQ h_T (h_w 0) (h_L 0) (h_P 0) p746_T, nX4 cI cZ cQ h_L (h_w 0) p746_L, nX4 cI cZ cQ h_P (h_w 0) p746_P, nX6 cI cZ cQ h_C (h_w 0) (h_M 0) (h_Q 0) w_C, nX4 cI cZ cQ h_M (h_w 0) w_M, nX4 cI cZ cQ h_Q (h_w 0) w_Q, nX0 cI cZ cQ h_d (h_w 0) (h_T 0) w_d, nX1 cI cZ cQ h_F (h_G 0) w_F, nX4 cI cZ cQ h_G (h_w 0) w_G, nX5 cI cZ cQ h_r (h_w 0) w_r, nX3 cI cZ cQ h_n (h_w 0) w_n, nX10 cI cZ cQ h_m p750_m]) rfl dL_law_750 ?_
  refine r_icmp_eq O 756 rfl 1795 dL_law_753 (by decide) (fun hc753 => ?_) (fun hc753 => ?_)
  · rw [if_pos hc753] at hf
    exact lwB1795 O S E rec18 hrec18 _ _ _ _ _ _ _ _ _ _ _ _ _ _ _ _ _ _ _ _ _ _ _ _ _ _ _ hf
  · rw [if_neg hc753] at hf
    refine r_ic O 757 rfl 0 (by decide) dL_law_756 ?_
    exact absurd (qe1 hf) (by decide)
set_option maxHeartbeats 40000000 in
set_option maxRecDepth 100000 in
theorem lwB1769 {X : Cx} {cI cZ cQ : ClassId} {bS L : Nat} {xs : Nat → Int32} (O : OK X cL_law 8 RL wB room_1 cI cZ cQ) (S : SX X bS L xs) (E : ∀ {pc : Nat} {ws : List va_W} {lv : List (Nat × Value)}, decode cL_law pc = .ok (.ireturn, 1) → BK X 8 177 15831 pc ws lv [.int 1]) {h_t h_w h_b h_l h_H h_k0 h_k1 h_k2 h_k3 h_k4 h_k5 h_k6 h_k7 h_x h_T h_L h_P h_C h_M h_Q h_d h_F h_G h_r h_n h_m : Nat → Nat} (rec18 : Pk → Pk → Pk → Pk → Pk → Pk → Pk → Pk → Pk → Pk → Pk → Pk → Pk → Pk → Pk → Pk → Pk → Pk → Pk → Pk → Pk → Pk → Pk → Pk → Pk → Pk → Int32 → Option Int32) (hrec18 : ∀ (w_t : Pk) (w_w : Pk) (w_b : Pk) (w_l : Pk) (w_H : Pk) (w_k0 : Pk) (w_k1 : Pk) (w_k2 : Pk) (w_k3 : Pk) (w_k4 : Pk) (w_k5 : Pk) (w_k6 : Pk) (w_k7 : Pk) (w_x : Pk) (w_T : Pk) (w_L : Pk) (w_P : Pk) (w_C : Pk) (w_M : Pk) (w_Q : Pk) (w_d : Pk) (w_F : Pk) (w_G : Pk) (w_r : Pk) (w_n : Pk) (w_m : Pk) (y3 : Int32), rec18 w_t w_w w_b w_l w_H w_k0 w_k1 w_k2 w_k3 w_k4 w_k5 w_k6 w_k7 w_x w_T w_L w_P w_C w_M w_Q w_d w_F w_G w_r w_n w_m y3 = some 1 → BK X 8 177 15831 18 ([nX9 cI cZ cQ h_t (h_w 0) (h_b 0) (h_l 0) (h_H 0) (h_x 0) (h_T 0) (h_C 0) (h_d 0) (h_F 0) (h_r 0) (h_n 0) w_t, nX8 cI cZ cQ h_w w_w, nX8 cI cZ cQ h_b w_b, nX8 cI cZ cQ h_l w_l, nX2 cI cZ cQ h_H (hkf h_k0 h_k1 h_k2 h_k3 h_k4 h_k5 h_k6 h_k7) w_H, nX8 cI cZ cQ h_k0 w_k0, nX8 cI cZ cQ h_k1 w_k1, nX8 cI cZ cQ h_k2 w_k2, nX8 cI cZ cQ h_k3 w_k3, nX8 cI cZ cQ h_k4 w_k4, nX8 cI cZ cQ h_k5 w_k5, nX8 cI cZ cQ h_k6 w_k6, nX8 cI cZ cQ h_k7 w_k7, nX7 cI cZ cQ h_x w_x, nX6 cI cZ cQ h_T (h_w 0) (h_L 0) (h_P 0) w_T, nX4 cI cZ cQ h_L (h_w 0) w_L, nX4 cI cZ cQ h_P (h_w 0) w_P, nX6 cI cZ cQ h_C (h_w 0) (h_M 0) (h_Q 0) w_C, nX4 cI cZ cQ h_M (h_w 0) w_M, nX4 cI cZ cQ h_Q (h_w 0) w_Q, nX0 cI cZ cQ h_d (h_w 0) (h_T 0) w_d, nX1 cI cZ cQ h_F (h_G 0) w_F, nX4 cI cZ cQ h_G (h_w 0) w_G, nX5 cI cZ cQ h_r (h_w 0) w_r, nX3 cI cZ cQ h_n (h_w 0) w_n, nX10 cI cZ cQ h_m w_m]) [(0, .ref bS), (1, .ref (h_t 0)), (2, .ref (h_m 0)), (3, .int y3)] []) : ∀ (w_t : Pk) (w_w : Pk) (w_b : Pk) (w_l : Pk) (w_H : Pk) (w_k0 : Pk) (w_k1 : Pk) (w_k2 : Pk) (w_k3 : Pk) (w_k4 : Pk) (w_k5 : Pk) (w_k6 : Pk) (w_k7 : Pk) (w_x : Pk) (w_T : Pk) (w_L : Pk) (w_P : Pk) (w_C : Pk) (w_M : Pk) (w_Q : Pk) (w_d : Pk) (w_F : Pk) (w_G : Pk) (w_r : Pk) (w_n : Pk) (w_m : Pk) (y3 : Int32), fL_b1769 L xs rec18 w_t w_w w_b w_l w_H w_k0 w_k1 w_k2 w_k3 w_k4 w_k5 w_k6 w_k7 w_x w_T w_L w_P w_C w_M w_Q w_d w_F w_G w_r w_n w_m y3 = some 1 → BK X 8 177 15831 1769 ([nX9 cI cZ cQ h_t (h_w 0) (h_b 0) (h_l 0) (h_H 0) (h_x 0) (h_T 0) (h_C 0) (h_d 0) (h_F 0) (h_r 0) (h_n 0) w_t, nX8 cI cZ cQ h_w w_w, nX8 cI cZ cQ h_b w_b, nX8 cI cZ cQ h_l w_l, nX2 cI cZ cQ h_H (hkf h_k0 h_k1 h_k2 h_k3 h_k4 h_k5 h_k6 h_k7) w_H, nX8 cI cZ cQ h_k0 w_k0, nX8 cI cZ cQ h_k1 w_k1, nX8 cI cZ cQ h_k2 w_k2, nX8 cI cZ cQ h_k3 w_k3, nX8 cI cZ cQ h_k4 w_k4, nX8 cI cZ cQ h_k5 w_k5, nX8 cI cZ cQ h_k6 w_k6, nX8 cI cZ cQ h_k7 w_k7, nX7 cI cZ cQ h_x w_x, nX6 cI cZ cQ h_T (h_w 0) (h_L 0) (h_P 0) w_T, nX4 cI cZ cQ h_L (h_w 0) w_L, nX4 cI cZ cQ h_P (h_w 0) w_P, nX6 cI cZ cQ h_C (h_w 0) (h_M 0) (h_Q 0) w_C, nX4 cI cZ cQ h_M (h_w 0) w_M, nX4 cI cZ cQ h_Q (h_w 0) w_Q, nX0 cI cZ cQ h_d (h_w 0) (h_T 0) w_d, nX1 cI cZ cQ h_F (h_G 0) w_F, nX4 cI cZ cQ h_G (h_w 0) w_G, nX5 cI cZ cQ h_r (h_w 0) w_r, nX3 cI cZ cQ h_n (h_w 0) w_n, nX10 cI cZ cQ h_m w_m]) [(0, .ref bS), (1, .ref (h_t 0)), (2, .ref (h_m 0)), (3, .int y3)] [] := by
  intro w_t w_w w_b w_l w_H w_k0 w_k1 w_k2 w_k3 w_k4 w_k5 w_k6 w_k7 w_x w_T w_L w_P w_C w_M w_Q w_d w_F w_G w_r w_n w_m y3 hf
  unfold fL_b1769 at hf
  refine r_ald_n O 1770 rfl 1 rfl dL_law_1769 ?_
  obtain ⟨x1770, p1770_F, p1770_G, hq1770, hf⟩ := qb3_some hf
  refine k_VI O 1773 rfl (zX9_leastPieces (l := xl X) (D := xD X) (cI := cI) (cZ := cZ) (cQ := cQ) (h_t := h_t) (h_w := h_w) (r_b := (h_b 0)) (r_l := (h_l 0)) (r_H := (h_H 0)) (r_x := (h_x 0)) (r_T := (h_T 0)) (r_C := (h_C 0)) (r_d := (h_d 0)) (h_F := h_F) (h_G := h_G) (r_r := (h_r 0)) (r_n := (h_n 0)) hq1770) (gV mlL_207 mvX9_leastPieces izX9) rfl rfl rfl hdX9_leastPieces ⟨Nat.le_of_ble_eq_true rfl, Nat.le_of_ble_eq_true rfl⟩ rfl 0 rfl rfl rfl rfl (Nat.le_of_ble_eq_true rfl) ⟨Nat.le_of_ble_eq_true rfl, Nat.le_of_ble_eq_true rfl⟩ [0, 1, 21, 22] rfl rfl rfl ([nX9 cI cZ cQ h_t (h_w 0) (h_b 0) (h_l 0) (h_H 0) (h_x 0) (h_T 0) (h_C 0) (h_d 0) (h_F 0) (h_r 0) (h_n 0) w_t, nX8 cI cZ cQ h_w w_w, nX8 cI cZ cQ h_b w_b, nX8 cI cZ cQ h_l w_l, nX2 cI cZ cQ h_H (hkf h_k0 h_k1 h_k2 h_k3 h_k4 h_k5 h_k6 h_k7) w_H, nX8 cI cZ cQ h_k0 w_k0, nX8 cI cZ cQ h_k1 w_k1, nX8 cI cZ cQ h_k2 w_k2, nX8 cI cZ cQ h_k3 w_k3, nX8 cI cZ cQ h_k4 w_k4, nX8 cI cZ cQ h_k5 w_k5, nX8 cI cZ cQ h_k6 w_k6, nX8 cI cZ cQ h_k7 w_k7, nX7 cI cZ cQ h_x w_x, nX6 cI cZ cQ h_T (h_w 0) (h_L 0) (h_P 0) w_T, nX4 cI cZ cQ h_L (h_w 0) w_L, nX4 cI cZ cQ h_P (h_w 0) w_P, nX6 cI cZ cQ h_C (h_w 0) (h_M 0) (h_Q 0) w_C, nX4 cI cZ cQ h_M (h_w 0) w_M, nX4 cI cZ cQ h_Q (h_w 0) w_Q, nX0 cI cZ cQ h_d (h_w 0) (h_T 0) w_d, nX1 cI cZ cQ h_F (h_G 0) p1770_F, nX4 cI cZ cQ h_G (h_w 0) p1770_G, nX5 cI cZ cQ h_r (h_w 0) w_r, nX3 cI cZ cQ h_n (h_w 0) w_n, nX10 cI cZ cQ h_m w_m]) rfl dL_law_1770 ?_
  refine r_ald_n O 1774 rfl 2 rfl dL_law_1773 ?_
  obtain ⟨x1774, p1774_m, hq1774, hf⟩ := qb2_some hf
  refine k_VI O 1777 rfl (zX10_leastPieces (l := xl X) (D := xD X) (cI := cI) (cZ := cZ) (cQ := cQ) (h_t := h_m) hq1774) (gV mlL_210 mvX10_leastPieces izX10) rfl rfl rfl hdX10_leastPieces ⟨Nat.le_of_ble_eq_true rfl, Nat.le_of_ble_eq_true rfl⟩ rfl 25 rfl rfl rfl rfl (Nat.le_of_ble_eq_true rfl) ⟨Nat.le_of_ble_eq_true rfl, Nat.le_of_ble_eq_true rfl⟩ [25] rfl rfl rfl ([nX9 cI cZ cQ h_t (h_w 0) (h_b 0) (h_l 0) (h_H 0) (h_x 0) (h_T 0) (h_C 0) (h_d 0) (h_F 0) (h_r 0) (h_n 0) w_t, nX8 cI cZ cQ h_w w_w, nX8 cI cZ cQ h_b w_b, nX8 cI cZ cQ h_l w_l, nX2 cI cZ cQ h_H (hkf h_k0 h_k1 h_k2 h_k3 h_k4 h_k5 h_k6 h_k7) w_H, nX8 cI cZ cQ h_k0 w_k0, nX8 cI cZ cQ h_k1 w_k1, nX8 cI cZ cQ h_k2 w_k2, nX8 cI cZ cQ h_k3 w_k3, nX8 cI cZ cQ h_k4 w_k4, nX8 cI cZ cQ h_k5 w_k5, nX8 cI cZ cQ h_k6 w_k6, nX8 cI cZ cQ h_k7 w_k7, nX7 cI cZ cQ h_x w_x, nX6 cI cZ cQ h_T (h_w 0) (h_L 0) (h_P 0) w_T, nX4 cI cZ cQ h_L (h_w 0) w_L, nX4 cI cZ cQ h_P (h_w 0) w_P, nX6 cI cZ cQ h_C (h_w 0) (h_M 0) (h_Q 0) w_C, nX4 cI cZ cQ h_M (h_w 0) w_M, nX4 cI cZ cQ h_Q (h_w 0) w_Q, nX0 cI cZ cQ h_d (h_w 0) (h_T 0) w_d, nX1 cI cZ cQ h_F (h_G 0) p1770_F, nX4 cI cZ cQ h_G (h_w 0) p1770_G, nX5 cI cZ cQ h_r (h_w 0) w_r, nX3 cI cZ cQ h_n (h_w 0) w_n, nX10 cI cZ cQ h_m p1774_m]) rfl dL_law_1774 ?_
  refine r_icmp_eq O 1780 rfl 1795 dL_law_1777 (by decide) (fun hc1777 => ?_) (fun hc1777 => ?_)
  · rw [if_pos hc1777] at hf
    exact lwB1795 O S E rec18 hrec18 _ _ _ _ _ _ _ _ _ _ _ _ _ _ _ _ _ _ _ _ _ _ _ _ _ _ _ hf
  · rw [if_neg hc1777] at hf
    refine r_ic O 1781 rfl 0 (by decide) dL_law_1780 ?_
    exact absurd (qe1 hf) (by decide)
set_option maxHeartbeats 40000000 in
set_option maxRecDepth 100000 in
theorem lwB1517 {X : Cx} {cI cZ cQ : ClassId} {bS L : Nat} {xs : Nat → Int32} (O : OK X cL_law 8 RL wB room_1 cI cZ cQ) (S : SX X bS L xs) (E : ∀ {pc : Nat} {ws : List va_W} {lv : List (Nat × Value)}, decode cL_law pc = .ok (.ireturn, 1) → BK X 8 177 15831 pc ws lv [.int 1]) {h_t h_w h_b h_l h_H h_k0 h_k1 h_k2 h_k3 h_k4 h_k5 h_k6 h_k7 h_x h_T h_L h_P h_C h_M h_Q h_d h_F h_G h_r h_n h_m : Nat → Nat} (rec18 : Pk → Pk → Pk → Pk → Pk → Pk → Pk → Pk → Pk → Pk → Pk → Pk → Pk → Pk → Pk → Pk → Pk → Pk → Pk → Pk → Pk → Pk → Pk → Pk → Pk → Pk → Int32 → Option Int32) (hrec18 : ∀ (w_t : Pk) (w_w : Pk) (w_b : Pk) (w_l : Pk) (w_H : Pk) (w_k0 : Pk) (w_k1 : Pk) (w_k2 : Pk) (w_k3 : Pk) (w_k4 : Pk) (w_k5 : Pk) (w_k6 : Pk) (w_k7 : Pk) (w_x : Pk) (w_T : Pk) (w_L : Pk) (w_P : Pk) (w_C : Pk) (w_M : Pk) (w_Q : Pk) (w_d : Pk) (w_F : Pk) (w_G : Pk) (w_r : Pk) (w_n : Pk) (w_m : Pk) (y3 : Int32), rec18 w_t w_w w_b w_l w_H w_k0 w_k1 w_k2 w_k3 w_k4 w_k5 w_k6 w_k7 w_x w_T w_L w_P w_C w_M w_Q w_d w_F w_G w_r w_n w_m y3 = some 1 → BK X 8 177 15831 18 ([nX9 cI cZ cQ h_t (h_w 0) (h_b 0) (h_l 0) (h_H 0) (h_x 0) (h_T 0) (h_C 0) (h_d 0) (h_F 0) (h_r 0) (h_n 0) w_t, nX8 cI cZ cQ h_w w_w, nX8 cI cZ cQ h_b w_b, nX8 cI cZ cQ h_l w_l, nX2 cI cZ cQ h_H (hkf h_k0 h_k1 h_k2 h_k3 h_k4 h_k5 h_k6 h_k7) w_H, nX8 cI cZ cQ h_k0 w_k0, nX8 cI cZ cQ h_k1 w_k1, nX8 cI cZ cQ h_k2 w_k2, nX8 cI cZ cQ h_k3 w_k3, nX8 cI cZ cQ h_k4 w_k4, nX8 cI cZ cQ h_k5 w_k5, nX8 cI cZ cQ h_k6 w_k6, nX8 cI cZ cQ h_k7 w_k7, nX7 cI cZ cQ h_x w_x, nX6 cI cZ cQ h_T (h_w 0) (h_L 0) (h_P 0) w_T, nX4 cI cZ cQ h_L (h_w 0) w_L, nX4 cI cZ cQ h_P (h_w 0) w_P, nX6 cI cZ cQ h_C (h_w 0) (h_M 0) (h_Q 0) w_C, nX4 cI cZ cQ h_M (h_w 0) w_M, nX4 cI cZ cQ h_Q (h_w 0) w_Q, nX0 cI cZ cQ h_d (h_w 0) (h_T 0) w_d, nX1 cI cZ cQ h_F (h_G 0) w_F, nX4 cI cZ cQ h_G (h_w 0) w_G, nX5 cI cZ cQ h_r (h_w 0) w_r, nX3 cI cZ cQ h_n (h_w 0) w_n, nX10 cI cZ cQ h_m w_m]) [(0, .ref bS), (1, .ref (h_t 0)), (2, .ref (h_m 0)), (3, .int y3)] []) : ∀ (w_t : Pk) (w_w : Pk) (w_b : Pk) (w_l : Pk) (w_H : Pk) (w_k0 : Pk) (w_k1 : Pk) (w_k2 : Pk) (w_k3 : Pk) (w_k4 : Pk) (w_k5 : Pk) (w_k6 : Pk) (w_k7 : Pk) (w_x : Pk) (w_T : Pk) (w_L : Pk) (w_P : Pk) (w_C : Pk) (w_M : Pk) (w_Q : Pk) (w_d : Pk) (w_F : Pk) (w_G : Pk) (w_r : Pk) (w_n : Pk) (w_m : Pk) (y3 : Int32), fL_b1517 L xs rec18 w_t w_w w_b w_l w_H w_k0 w_k1 w_k2 w_k3 w_k4 w_k5 w_k6 w_k7 w_x w_T w_L w_P w_C w_M w_Q w_d w_F w_G w_r w_n w_m y3 = some 1 → BK X 8 177 15831 1517 ([nX9 cI cZ cQ h_t (h_w 0) (h_b 0) (h_l 0) (h_H 0) (h_x 0) (h_T 0) (h_C 0) (h_d 0) (h_F 0) (h_r 0) (h_n 0) w_t, nX8 cI cZ cQ h_w w_w, nX8 cI cZ cQ h_b w_b, nX8 cI cZ cQ h_l w_l, nX2 cI cZ cQ h_H (hkf h_k0 h_k1 h_k2 h_k3 h_k4 h_k5 h_k6 h_k7) w_H, nX8 cI cZ cQ h_k0 w_k0, nX8 cI cZ cQ h_k1 w_k1, nX8 cI cZ cQ h_k2 w_k2, nX8 cI cZ cQ h_k3 w_k3, nX8 cI cZ cQ h_k4 w_k4, nX8 cI cZ cQ h_k5 w_k5, nX8 cI cZ cQ h_k6 w_k6, nX8 cI cZ cQ h_k7 w_k7, nX7 cI cZ cQ h_x w_x, nX6 cI cZ cQ h_T (h_w 0) (h_L 0) (h_P 0) w_T, nX4 cI cZ cQ h_L (h_w 0) w_L, nX4 cI cZ cQ h_P (h_w 0) w_P, nX6 cI cZ cQ h_C (h_w 0) (h_M 0) (h_Q 0) w_C, nX4 cI cZ cQ h_M (h_w 0) w_M, nX4 cI cZ cQ h_Q (h_w 0) w_Q, nX0 cI cZ cQ h_d (h_w 0) (h_T 0) w_d, nX1 cI cZ cQ h_F (h_G 0) w_F, nX4 cI cZ cQ h_G (h_w 0) w_G, nX5 cI cZ cQ h_r (h_w 0) w_r, nX3 cI cZ cQ h_n (h_w 0) w_n, nX10 cI cZ cQ h_m w_m]) [(0, .ref bS), (1, .ref (h_t 0)), (2, .ref (h_m 0)), (3, .int y3)] [] := by
  intro w_t w_w w_b w_l w_H w_k0 w_k1 w_k2 w_k3 w_k4 w_k5 w_k6 w_k7 w_x w_T w_L w_P w_C w_M w_Q w_d w_F w_G w_r w_n w_m y3 hf
  unfold fL_b1517 at hf
  refine r_ald_n O 1518 rfl 1 rfl dL_law_1517 ?_
  refine r_ald_n O 1519 rfl 0 rfl dL_law_1518 ?_
  refine r_ild_n O 1520 rfl 3 rfl dL_law_1519 ?_
  refine r_ic O 1521 rfl 1 (by decide) dL_law_1520 ?_
  refine r_iadd O 1522 rfl dL_law_1521 ?_
  obtain ⟨x1522, ex1522, hin1522, hf⟩ := qld_some hf
  refine r_sld O S 1523 rfl hin1522 dL_law_1522 ?_
  rw [← ex1522]
  obtain ⟨x1523, p1523_r, hq1523, hf⟩ := qb2_some hf
  refine k_VI O 1526 rfl (zX9_lookout (l := xl X) (D := xD X) (cI := cI) (cZ := cZ) (cQ := cQ) (h_t := h_t) (h_w := h_w) (r_b := (h_b 0)) (r_l := (h_l 0)) (r_H := (h_H 0)) (r_x := (h_x 0)) (r_T := (h_T 0)) (r_C := (h_C 0)) (r_d := (h_d 0)) (r_F := (h_F 0)) (h_r := h_r) (r_n := (h_n 0)) hq1523) (gV mlL_178 mvX9_lookout izX9) rfl rfl rfl hdX9_lookout ⟨Nat.le_of_ble_eq_true rfl, Nat.le_of_ble_eq_true rfl⟩ rfl 0 rfl rfl rfl rfl (Nat.le_of_ble_eq_true rfl) ⟨Nat.le_of_ble_eq_true rfl, Nat.le_of_ble_eq_true rfl⟩ [0, 1, 23] rfl rfl rfl ([nX9 cI cZ cQ h_t (h_w 0) (h_b 0) (h_l 0) (h_H 0) (h_x 0) (h_T 0) (h_C 0) (h_d 0) (h_F 0) (h_r 0) (h_n 0) w_t, nX8 cI cZ cQ h_w w_w, nX8 cI cZ cQ h_b w_b, nX8 cI cZ cQ h_l w_l, nX2 cI cZ cQ h_H (hkf h_k0 h_k1 h_k2 h_k3 h_k4 h_k5 h_k6 h_k7) w_H, nX8 cI cZ cQ h_k0 w_k0, nX8 cI cZ cQ h_k1 w_k1, nX8 cI cZ cQ h_k2 w_k2, nX8 cI cZ cQ h_k3 w_k3, nX8 cI cZ cQ h_k4 w_k4, nX8 cI cZ cQ h_k5 w_k5, nX8 cI cZ cQ h_k6 w_k6, nX8 cI cZ cQ h_k7 w_k7, nX7 cI cZ cQ h_x w_x, nX6 cI cZ cQ h_T (h_w 0) (h_L 0) (h_P 0) w_T, nX4 cI cZ cQ h_L (h_w 0) w_L, nX4 cI cZ cQ h_P (h_w 0) w_P, nX6 cI cZ cQ h_C (h_w 0) (h_M 0) (h_Q 0) w_C, nX4 cI cZ cQ h_M (h_w 0) w_M, nX4 cI cZ cQ h_Q (h_w 0) w_Q, nX0 cI cZ cQ h_d (h_w 0) (h_T 0) w_d, nX1 cI cZ cQ h_F (h_G 0) w_F, nX4 cI cZ cQ h_G (h_w 0) w_G, nX5 cI cZ cQ h_r (h_w 0) p1523_r, nX3 cI cZ cQ h_n (h_w 0) w_n, nX10 cI cZ cQ h_m w_m]) rfl dL_law_1523 ?_
  refine r_ald_n O 1527 rfl 2 rfl dL_law_1526 ?_
  refine r_ald_n O 1528 rfl 0 rfl dL_law_1527 ?_
  refine r_ild_n O 1529 rfl 3 rfl dL_law_1528 ?_
  refine r_ic O 1530 rfl 1 (by decide) dL_law_1529 ?_
  refine r_iadd O 1531 rfl dL_law_1530 ?_
  obtain ⟨x1531, ex1531, hin1531, hf⟩ := qld_some hf
  refine r_sld O S 1532 rfl hin1531 dL_law_1531 ?_
  rw [← ex1531]
  obtain ⟨x1532, p1532_m, hq1532, hf⟩ := qb2_some hf
  refine k_VI O 1535 rfl (zX10_lookout (l := xl X) (D := xD X) (cI := cI) (cZ := cZ) (cQ := cQ) (h_t := h_m) hq1532) (gV mlL_181 mvX10_lookout izX10) rfl rfl rfl hdX10_lookout ⟨Nat.le_of_ble_eq_true rfl, Nat.le_of_ble_eq_true rfl⟩ rfl 25 rfl rfl rfl rfl (Nat.le_of_ble_eq_true rfl) ⟨Nat.le_of_ble_eq_true rfl, Nat.le_of_ble_eq_true rfl⟩ [25] rfl rfl rfl ([nX9 cI cZ cQ h_t (h_w 0) (h_b 0) (h_l 0) (h_H 0) (h_x 0) (h_T 0) (h_C 0) (h_d 0) (h_F 0) (h_r 0) (h_n 0) w_t, nX8 cI cZ cQ h_w w_w, nX8 cI cZ cQ h_b w_b, nX8 cI cZ cQ h_l w_l, nX2 cI cZ cQ h_H (hkf h_k0 h_k1 h_k2 h_k3 h_k4 h_k5 h_k6 h_k7) w_H, nX8 cI cZ cQ h_k0 w_k0, nX8 cI cZ cQ h_k1 w_k1, nX8 cI cZ cQ h_k2 w_k2, nX8 cI cZ cQ h_k3 w_k3, nX8 cI cZ cQ h_k4 w_k4, nX8 cI cZ cQ h_k5 w_k5, nX8 cI cZ cQ h_k6 w_k6, nX8 cI cZ cQ h_k7 w_k7, nX7 cI cZ cQ h_x w_x, nX6 cI cZ cQ h_T (h_w 0) (h_L 0) (h_P 0) w_T, nX4 cI cZ cQ h_L (h_w 0) w_L, nX4 cI cZ cQ h_P (h_w 0) w_P, nX6 cI cZ cQ h_C (h_w 0) (h_M 0) (h_Q 0) w_C, nX4 cI cZ cQ h_M (h_w 0) w_M, nX4 cI cZ cQ h_Q (h_w 0) w_Q, nX0 cI cZ cQ h_d (h_w 0) (h_T 0) w_d, nX1 cI cZ cQ h_F (h_G 0) w_F, nX4 cI cZ cQ h_G (h_w 0) w_G, nX5 cI cZ cQ h_r (h_w 0) p1523_r, nX3 cI cZ cQ h_n (h_w 0) w_n, nX10 cI cZ cQ h_m p1532_m]) rfl dL_law_1532 ?_
  refine r_icmp_eq O 1538 rfl 1795 dL_law_1535 (by decide) (fun hc1535 => ?_) (fun hc1535 => ?_)
  · rw [if_pos hc1535] at hf
    exact lwB1795 O S E rec18 hrec18 _ _ _ _ _ _ _ _ _ _ _ _ _ _ _ _ _ _ _ _ _ _ _ _ _ _ _ hf
  · rw [if_neg hc1535] at hf
    refine r_ic O 1539 rfl 0 (by decide) dL_law_1538 ?_
    exact absurd (qe1 hf) (by decide)
set_option maxHeartbeats 40000000 in
set_option maxRecDepth 100000 in
theorem lwB1646 {X : Cx} {cI cZ cQ : ClassId} {bS L : Nat} {xs : Nat → Int32} (O : OK X cL_law 8 RL wB room_1 cI cZ cQ) (S : SX X bS L xs) (E : ∀ {pc : Nat} {ws : List va_W} {lv : List (Nat × Value)}, decode cL_law pc = .ok (.ireturn, 1) → BK X 8 177 15831 pc ws lv [.int 1]) {h_t h_w h_b h_l h_H h_k0 h_k1 h_k2 h_k3 h_k4 h_k5 h_k6 h_k7 h_x h_T h_L h_P h_C h_M h_Q h_d h_F h_G h_r h_n h_m : Nat → Nat} (rec18 : Pk → Pk → Pk → Pk → Pk → Pk → Pk → Pk → Pk → Pk → Pk → Pk → Pk → Pk → Pk → Pk → Pk → Pk → Pk → Pk → Pk → Pk → Pk → Pk → Pk → Pk → Int32 → Option Int32) (hrec18 : ∀ (w_t : Pk) (w_w : Pk) (w_b : Pk) (w_l : Pk) (w_H : Pk) (w_k0 : Pk) (w_k1 : Pk) (w_k2 : Pk) (w_k3 : Pk) (w_k4 : Pk) (w_k5 : Pk) (w_k6 : Pk) (w_k7 : Pk) (w_x : Pk) (w_T : Pk) (w_L : Pk) (w_P : Pk) (w_C : Pk) (w_M : Pk) (w_Q : Pk) (w_d : Pk) (w_F : Pk) (w_G : Pk) (w_r : Pk) (w_n : Pk) (w_m : Pk) (y3 : Int32), rec18 w_t w_w w_b w_l w_H w_k0 w_k1 w_k2 w_k3 w_k4 w_k5 w_k6 w_k7 w_x w_T w_L w_P w_C w_M w_Q w_d w_F w_G w_r w_n w_m y3 = some 1 → BK X 8 177 15831 18 ([nX9 cI cZ cQ h_t (h_w 0) (h_b 0) (h_l 0) (h_H 0) (h_x 0) (h_T 0) (h_C 0) (h_d 0) (h_F 0) (h_r 0) (h_n 0) w_t, nX8 cI cZ cQ h_w w_w, nX8 cI cZ cQ h_b w_b, nX8 cI cZ cQ h_l w_l, nX2 cI cZ cQ h_H (hkf h_k0 h_k1 h_k2 h_k3 h_k4 h_k5 h_k6 h_k7) w_H, nX8 cI cZ cQ h_k0 w_k0, nX8 cI cZ cQ h_k1 w_k1, nX8 cI cZ cQ h_k2 w_k2, nX8 cI cZ cQ h_k3 w_k3, nX8 cI cZ cQ h_k4 w_k4, nX8 cI cZ cQ h_k5 w_k5, nX8 cI cZ cQ h_k6 w_k6, nX8 cI cZ cQ h_k7 w_k7, nX7 cI cZ cQ h_x w_x, nX6 cI cZ cQ h_T (h_w 0) (h_L 0) (h_P 0) w_T, nX4 cI cZ cQ h_L (h_w 0) w_L, nX4 cI cZ cQ h_P (h_w 0) w_P, nX6 cI cZ cQ h_C (h_w 0) (h_M 0) (h_Q 0) w_C, nX4 cI cZ cQ h_M (h_w 0) w_M, nX4 cI cZ cQ h_Q (h_w 0) w_Q, nX0 cI cZ cQ h_d (h_w 0) (h_T 0) w_d, nX1 cI cZ cQ h_F (h_G 0) w_F, nX4 cI cZ cQ h_G (h_w 0) w_G, nX5 cI cZ cQ h_r (h_w 0) w_r, nX3 cI cZ cQ h_n (h_w 0) w_n, nX10 cI cZ cQ h_m w_m]) [(0, .ref bS), (1, .ref (h_t 0)), (2, .ref (h_m 0)), (3, .int y3)] []) : ∀ (w_t : Pk) (w_w : Pk) (w_b : Pk) (w_l : Pk) (w_H : Pk) (w_k0 : Pk) (w_k1 : Pk) (w_k2 : Pk) (w_k3 : Pk) (w_k4 : Pk) (w_k5 : Pk) (w_k6 : Pk) (w_k7 : Pk) (w_x : Pk) (w_T : Pk) (w_L : Pk) (w_P : Pk) (w_C : Pk) (w_M : Pk) (w_Q : Pk) (w_d : Pk) (w_F : Pk) (w_G : Pk) (w_r : Pk) (w_n : Pk) (w_m : Pk) (y3 : Int32), fL_b1646 L xs rec18 w_t w_w w_b w_l w_H w_k0 w_k1 w_k2 w_k3 w_k4 w_k5 w_k6 w_k7 w_x w_T w_L w_P w_C w_M w_Q w_d w_F w_G w_r w_n w_m y3 = some 1 → BK X 8 177 15831 1646 ([nX9 cI cZ cQ h_t (h_w 0) (h_b 0) (h_l 0) (h_H 0) (h_x 0) (h_T 0) (h_C 0) (h_d 0) (h_F 0) (h_r 0) (h_n 0) w_t, nX8 cI cZ cQ h_w w_w, nX8 cI cZ cQ h_b w_b, nX8 cI cZ cQ h_l w_l, nX2 cI cZ cQ h_H (hkf h_k0 h_k1 h_k2 h_k3 h_k4 h_k5 h_k6 h_k7) w_H, nX8 cI cZ cQ h_k0 w_k0, nX8 cI cZ cQ h_k1 w_k1, nX8 cI cZ cQ h_k2 w_k2, nX8 cI cZ cQ h_k3 w_k3, nX8 cI cZ cQ h_k4 w_k4, nX8 cI cZ cQ h_k5 w_k5, nX8 cI cZ cQ h_k6 w_k6, nX8 cI cZ cQ h_k7 w_k7, nX7 cI cZ cQ h_x w_x, nX6 cI cZ cQ h_T (h_w 0) (h_L 0) (h_P 0) w_T, nX4 cI cZ cQ h_L (h_w 0) w_L, nX4 cI cZ cQ h_P (h_w 0) w_P, nX6 cI cZ cQ h_C (h_w 0) (h_M 0) (h_Q 0) w_C, nX4 cI cZ cQ h_M (h_w 0) w_M, nX4 cI cZ cQ h_Q (h_w 0) w_Q, nX0 cI cZ cQ h_d (h_w 0) (h_T 0) w_d, nX1 cI cZ cQ h_F (h_G 0) w_F, nX4 cI cZ cQ h_G (h_w 0) w_G, nX5 cI cZ cQ h_r (h_w 0) w_r, nX3 cI cZ cQ h_n (h_w 0) w_n, nX10 cI cZ cQ h_m w_m]) [(0, .ref bS), (1, .ref (h_t 0)), (2, .ref (h_m 0)), (3, .int y3)] [] := by
  intro w_t w_w w_b w_l w_H w_k0 w_k1 w_k2 w_k3 w_k4 w_k5 w_k6 w_k7 w_x w_T w_L w_P w_C w_M w_Q w_d w_F w_G w_r w_n w_m y3 hf
  unfold fL_b1646 at hf
  refine r_ald_n O 1647 rfl 1 rfl dL_law_1646 ?_
  refine r_ald_n O 1648 rfl 0 rfl dL_law_1647 ?_
  refine r_ild_n O 1649 rfl 3 rfl dL_law_1648 ?_
  refine r_ic O 1650 rfl 1 (by decide) dL_law_1649 ?_
  refine r_iadd O 1651 rfl dL_law_1650 ?_
  obtain ⟨x1651, ex1651, hin1651, hf⟩ := qld_some hf
  refine r_sld O S 1652 rfl hin1651 dL_law_1651 ?_
  rw [← ex1651]
  refine r_ald_n O 1653 rfl 0 rfl dL_law_1652 ?_
  refine r_ild_n O 1654 rfl 3 rfl dL_law_1653 ?_
  refine r_ic O 1655 rfl 2 (by decide) dL_law_1654 ?_
  refine r_iadd O 1656 rfl dL_law_1655 ?_
  obtain ⟨x1656, ex1656, hin1656, hf⟩ := qld_some hf
  refine r_sld O S 1657 rfl hin1656 dL_law_1656 ?_
  rw [← ex1656]
  obtain ⟨x1657, p1657_n, hq1657, hf⟩ := qb2_some hf
  refine k_VI O 1660 rfl (zX9_nearestWall (l := xl X) (D := xD X) (cI := cI) (cZ := cZ) (cQ := cQ) (h_t := h_t) (h_w := h_w) (r_b := (h_b 0)) (r_l := (h_l 0)) (r_H := (h_H 0)) (r_x := (h_x 0)) (r_T := (h_T 0)) (r_C := (h_C 0)) (r_d := (h_d 0)) (r_F := (h_F 0)) (r_r := (h_r 0)) (h_n := h_n) hq1657) (gV mlL_190 mvX9_nearestWall izX9) rfl rfl rfl hdX9_nearestWall ⟨Nat.le_of_ble_eq_true rfl, Nat.le_of_ble_eq_true rfl⟩ rfl 0 rfl rfl rfl rfl (Nat.le_of_ble_eq_true rfl) ⟨Nat.le_of_ble_eq_true rfl, Nat.le_of_ble_eq_true rfl⟩ [0, 1, 24] rfl rfl rfl ([nX9 cI cZ cQ h_t (h_w 0) (h_b 0) (h_l 0) (h_H 0) (h_x 0) (h_T 0) (h_C 0) (h_d 0) (h_F 0) (h_r 0) (h_n 0) w_t, nX8 cI cZ cQ h_w w_w, nX8 cI cZ cQ h_b w_b, nX8 cI cZ cQ h_l w_l, nX2 cI cZ cQ h_H (hkf h_k0 h_k1 h_k2 h_k3 h_k4 h_k5 h_k6 h_k7) w_H, nX8 cI cZ cQ h_k0 w_k0, nX8 cI cZ cQ h_k1 w_k1, nX8 cI cZ cQ h_k2 w_k2, nX8 cI cZ cQ h_k3 w_k3, nX8 cI cZ cQ h_k4 w_k4, nX8 cI cZ cQ h_k5 w_k5, nX8 cI cZ cQ h_k6 w_k6, nX8 cI cZ cQ h_k7 w_k7, nX7 cI cZ cQ h_x w_x, nX6 cI cZ cQ h_T (h_w 0) (h_L 0) (h_P 0) w_T, nX4 cI cZ cQ h_L (h_w 0) w_L, nX4 cI cZ cQ h_P (h_w 0) w_P, nX6 cI cZ cQ h_C (h_w 0) (h_M 0) (h_Q 0) w_C, nX4 cI cZ cQ h_M (h_w 0) w_M, nX4 cI cZ cQ h_Q (h_w 0) w_Q, nX0 cI cZ cQ h_d (h_w 0) (h_T 0) w_d, nX1 cI cZ cQ h_F (h_G 0) w_F, nX4 cI cZ cQ h_G (h_w 0) w_G, nX5 cI cZ cQ h_r (h_w 0) w_r, nX3 cI cZ cQ h_n (h_w 0) p1657_n, nX10 cI cZ cQ h_m w_m]) rfl dL_law_1657 ?_
  refine r_ald_n O 1661 rfl 2 rfl dL_law_1660 ?_
  refine r_ald_n O 1662 rfl 0 rfl dL_law_1661 ?_
  refine r_ild_n O 1663 rfl 3 rfl dL_law_1662 ?_
  refine r_ic O 1664 rfl 1 (by decide) dL_law_1663 ?_
  refine r_iadd O 1665 rfl dL_law_1664 ?_
  obtain ⟨x1665, ex1665, hin1665, hf⟩ := qld_some hf
  refine r_sld O S 1666 rfl hin1665 dL_law_1665 ?_
  rw [← ex1665]
  refine r_ald_n O 1667 rfl 0 rfl dL_law_1666 ?_
  refine r_ild_n O 1668 rfl 3 rfl dL_law_1667 ?_
  refine r_ic O 1669 rfl 2 (by decide) dL_law_1668 ?_
  refine r_iadd O 1670 rfl dL_law_1669 ?_
  obtain ⟨x1670, ex1670, hin1670, hf⟩ := qld_some hf
  refine r_sld O S 1671 rfl hin1670 dL_law_1670 ?_
  rw [← ex1670]
  obtain ⟨x1671, p1671_m, hq1671, hf⟩ := qb2_some hf
  refine k_VI O 1674 rfl (zX10_nearestWall (l := xl X) (D := xD X) (cI := cI) (cZ := cZ) (cQ := cQ) (h_t := h_m) hq1671) (gV mlL_193 mvX10_nearestWall izX10) rfl rfl rfl hdX10_nearestWall ⟨Nat.le_of_ble_eq_true rfl, Nat.le_of_ble_eq_true rfl⟩ rfl 25 rfl rfl rfl rfl (Nat.le_of_ble_eq_true rfl) ⟨Nat.le_of_ble_eq_true rfl, Nat.le_of_ble_eq_true rfl⟩ [25] rfl rfl rfl ([nX9 cI cZ cQ h_t (h_w 0) (h_b 0) (h_l 0) (h_H 0) (h_x 0) (h_T 0) (h_C 0) (h_d 0) (h_F 0) (h_r 0) (h_n 0) w_t, nX8 cI cZ cQ h_w w_w, nX8 cI cZ cQ h_b w_b, nX8 cI cZ cQ h_l w_l, nX2 cI cZ cQ h_H (hkf h_k0 h_k1 h_k2 h_k3 h_k4 h_k5 h_k6 h_k7) w_H, nX8 cI cZ cQ h_k0 w_k0, nX8 cI cZ cQ h_k1 w_k1, nX8 cI cZ cQ h_k2 w_k2, nX8 cI cZ cQ h_k3 w_k3, nX8 cI cZ cQ h_k4 w_k4, nX8 cI cZ cQ h_k5 w_k5, nX8 cI cZ cQ h_k6 w_k6, nX8 cI cZ cQ h_k7 w_k7, nX7 cI cZ cQ h_x w_x, nX6 cI cZ cQ h_T (h_w 0) (h_L 0) (h_P 0) w_T, nX4 cI cZ cQ h_L (h_w 0) w_L, nX4 cI cZ cQ h_P (h_w 0) w_P, nX6 cI cZ cQ h_C (h_w 0) (h_M 0) (h_Q 0) w_C, nX4 cI cZ cQ h_M (h_w 0) w_M, nX4 cI cZ cQ h_Q (h_w 0) w_Q, nX0 cI cZ cQ h_d (h_w 0) (h_T 0) w_d, nX1 cI cZ cQ h_F (h_G 0) w_F, nX4 cI cZ cQ h_G (h_w 0) w_G, nX5 cI cZ cQ h_r (h_w 0) w_r, nX3 cI cZ cQ h_n (h_w 0) p1657_n, nX10 cI cZ cQ h_m p1671_m]) rfl dL_law_1671 ?_
  refine r_icmp_eq O 1677 rfl 1795 dL_law_1674 (by decide) (fun hc1674 => ?_) (fun hc1674 => ?_)
  · rw [if_pos hc1674] at hf
    exact lwB1795 O S E rec18 hrec18 _ _ _ _ _ _ _ _ _ _ _ _ _ _ _ _ _ _ _ _ _ _ _ _ _ _ _ hf
  · rw [if_neg hc1674] at hf
    refine r_ic O 1678 rfl 0 (by decide) dL_law_1677 ?_
    exact absurd (qe1 hf) (by decide)
set_option maxHeartbeats 40000000 in
set_option maxRecDepth 100000 in
theorem lwB240 {X : Cx} {cI cZ cQ : ClassId} {bS L : Nat} {xs : Nat → Int32} (O : OK X cL_law 8 RL wB room_1 cI cZ cQ) (S : SX X bS L xs) (E : ∀ {pc : Nat} {ws : List va_W} {lv : List (Nat × Value)}, decode cL_law pc = .ok (.ireturn, 1) → BK X 8 177 15831 pc ws lv [.int 1]) {h_t h_w h_b h_l h_H h_k0 h_k1 h_k2 h_k3 h_k4 h_k5 h_k6 h_k7 h_x h_T h_L h_P h_C h_M h_Q h_d h_F h_G h_r h_n h_m : Nat → Nat} (rec18 : Pk → Pk → Pk → Pk → Pk → Pk → Pk → Pk → Pk → Pk → Pk → Pk → Pk → Pk → Pk → Pk → Pk → Pk → Pk → Pk → Pk → Pk → Pk → Pk → Pk → Pk → Int32 → Option Int32) (hrec18 : ∀ (w_t : Pk) (w_w : Pk) (w_b : Pk) (w_l : Pk) (w_H : Pk) (w_k0 : Pk) (w_k1 : Pk) (w_k2 : Pk) (w_k3 : Pk) (w_k4 : Pk) (w_k5 : Pk) (w_k6 : Pk) (w_k7 : Pk) (w_x : Pk) (w_T : Pk) (w_L : Pk) (w_P : Pk) (w_C : Pk) (w_M : Pk) (w_Q : Pk) (w_d : Pk) (w_F : Pk) (w_G : Pk) (w_r : Pk) (w_n : Pk) (w_m : Pk) (y3 : Int32), rec18 w_t w_w w_b w_l w_H w_k0 w_k1 w_k2 w_k3 w_k4 w_k5 w_k6 w_k7 w_x w_T w_L w_P w_C w_M w_Q w_d w_F w_G w_r w_n w_m y3 = some 1 → BK X 8 177 15831 18 ([nX9 cI cZ cQ h_t (h_w 0) (h_b 0) (h_l 0) (h_H 0) (h_x 0) (h_T 0) (h_C 0) (h_d 0) (h_F 0) (h_r 0) (h_n 0) w_t, nX8 cI cZ cQ h_w w_w, nX8 cI cZ cQ h_b w_b, nX8 cI cZ cQ h_l w_l, nX2 cI cZ cQ h_H (hkf h_k0 h_k1 h_k2 h_k3 h_k4 h_k5 h_k6 h_k7) w_H, nX8 cI cZ cQ h_k0 w_k0, nX8 cI cZ cQ h_k1 w_k1, nX8 cI cZ cQ h_k2 w_k2, nX8 cI cZ cQ h_k3 w_k3, nX8 cI cZ cQ h_k4 w_k4, nX8 cI cZ cQ h_k5 w_k5, nX8 cI cZ cQ h_k6 w_k6, nX8 cI cZ cQ h_k7 w_k7, nX7 cI cZ cQ h_x w_x, nX6 cI cZ cQ h_T (h_w 0) (h_L 0) (h_P 0) w_T, nX4 cI cZ cQ h_L (h_w 0) w_L, nX4 cI cZ cQ h_P (h_w 0) w_P, nX6 cI cZ cQ h_C (h_w 0) (h_M 0) (h_Q 0) w_C, nX4 cI cZ cQ h_M (h_w 0) w_M, nX4 cI cZ cQ h_Q (h_w 0) w_Q, nX0 cI cZ cQ h_d (h_w 0) (h_T 0) w_d, nX1 cI cZ cQ h_F (h_G 0) w_F, nX4 cI cZ cQ h_G (h_w 0) w_G, nX5 cI cZ cQ h_r (h_w 0) w_r, nX3 cI cZ cQ h_n (h_w 0) w_n, nX10 cI cZ cQ h_m w_m]) [(0, .ref bS), (1, .ref (h_t 0)), (2, .ref (h_m 0)), (3, .int y3)] []) : ∀ (w_t : Pk) (w_w : Pk) (w_b : Pk) (w_l : Pk) (w_H : Pk) (w_k0 : Pk) (w_k1 : Pk) (w_k2 : Pk) (w_k3 : Pk) (w_k4 : Pk) (w_k5 : Pk) (w_k6 : Pk) (w_k7 : Pk) (w_x : Pk) (w_T : Pk) (w_L : Pk) (w_P : Pk) (w_C : Pk) (w_M : Pk) (w_Q : Pk) (w_d : Pk) (w_F : Pk) (w_G : Pk) (w_r : Pk) (w_n : Pk) (w_m : Pk) (y3 : Int32), fL_b240 L xs rec18 w_t w_w w_b w_l w_H w_k0 w_k1 w_k2 w_k3 w_k4 w_k5 w_k6 w_k7 w_x w_T w_L w_P w_C w_M w_Q w_d w_F w_G w_r w_n w_m y3 = some 1 → BK X 8 177 15831 240 ([nX9 cI cZ cQ h_t (h_w 0) (h_b 0) (h_l 0) (h_H 0) (h_x 0) (h_T 0) (h_C 0) (h_d 0) (h_F 0) (h_r 0) (h_n 0) w_t, nX8 cI cZ cQ h_w w_w, nX8 cI cZ cQ h_b w_b, nX8 cI cZ cQ h_l w_l, nX2 cI cZ cQ h_H (hkf h_k0 h_k1 h_k2 h_k3 h_k4 h_k5 h_k6 h_k7) w_H, nX8 cI cZ cQ h_k0 w_k0, nX8 cI cZ cQ h_k1 w_k1, nX8 cI cZ cQ h_k2 w_k2, nX8 cI cZ cQ h_k3 w_k3, nX8 cI cZ cQ h_k4 w_k4, nX8 cI cZ cQ h_k5 w_k5, nX8 cI cZ cQ h_k6 w_k6, nX8 cI cZ cQ h_k7 w_k7, nX7 cI cZ cQ h_x w_x, nX6 cI cZ cQ h_T (h_w 0) (h_L 0) (h_P 0) w_T, nX4 cI cZ cQ h_L (h_w 0) w_L, nX4 cI cZ cQ h_P (h_w 0) w_P, nX6 cI cZ cQ h_C (h_w 0) (h_M 0) (h_Q 0) w_C, nX4 cI cZ cQ h_M (h_w 0) w_M, nX4 cI cZ cQ h_Q (h_w 0) w_Q, nX0 cI cZ cQ h_d (h_w 0) (h_T 0) w_d, nX1 cI cZ cQ h_F (h_G 0) w_F, nX4 cI cZ cQ h_G (h_w 0) w_G, nX5 cI cZ cQ h_r (h_w 0) w_r, nX3 cI cZ cQ h_n (h_w 0) w_n, nX10 cI cZ cQ h_m w_m]) [(0, .ref bS), (1, .ref (h_t 0)), (2, .ref (h_m 0)), (3, .int y3)] [] := by
  intro w_t w_w w_b w_l w_H w_k0 w_k1 w_k2 w_k3 w_k4 w_k5 w_k6 w_k7 w_x w_T w_L w_P w_C w_M w_Q w_d w_F w_G w_r w_n w_m y3 hf
  unfold fL_b240 at hf
  refine r_ald_n O 241 rfl 1 rfl dL_law_240 ?_
  refine r_ald_n O 242 rfl 0 rfl dL_law_241 ?_
  refine r_ild_n O 243 rfl 3 rfl dL_law_242 ?_
  refine r_ic O 244 rfl 1 (by decide) dL_law_243 ?_
  refine r_iadd O 245 rfl dL_law_244 ?_
  obtain ⟨x245, ex245, hin245, hf⟩ := qld_some hf
  refine r_sld O S 246 rfl hin245 dL_law_245 ?_
  rw [← ex245]
  refine r_ald_n O 247 rfl 0 rfl dL_law_246 ?_
  refine r_ild_n O 248 rfl 3 rfl dL_law_247 ?_
  refine r_ic O 249 rfl 2 (by decide) dL_law_248 ?_
  refine r_iadd O 250 rfl dL_law_249 ?_
  obtain ⟨x250, ex250, hin250, hf⟩ := qld_some hf
  refine r_sld O S 251 rfl hin250 dL_law_250 ?_
  rw [← ex250]
  refine r_ald_n O 252 rfl 0 rfl dL_law_251 ?_
  refine r_ild_n O 253 rfl 3 rfl dL_law_252 ?_
  refine r_ic O 254 rfl 3 (by decide) dL_law_253 ?_
  refine r_iadd O 255 rfl dL_law_254 ?_
  obtain ⟨x255, ex255, hin255, hf⟩ := qld_some hf
  refine r_sld O S 256 rfl hin255 dL_law_255 ?_
  rw [← ex255]
  refine r_ald_n O 257 rfl 0 rfl dL_law_256 ?_
  refine r_ild_n O 258 rfl 3 rfl dL_law_257 ?_
  refine r_ic O 259 rfl 4 (by decide) dL_law_258 ?_
  refine r_iadd O 260 rfl dL_law_259 ?_
  obtain ⟨x260, ex260, hin260, hf⟩ := qld_some hf
  refine r_sld O S 261 rfl hin260 dL_law_260 ?_
  rw [← ex260]
  refine r_ald_n O 262 rfl 0 rfl dL_law_261 ?_
  refine r_ild_n O 263 rfl 3 rfl dL_law_262 ?_
  refine r_ic O 264 rfl 5 (by decide) dL_law_263 ?_
  refine r_iadd O 265 rfl dL_law_264 ?_
  obtain ⟨x265, ex265, hin265, hf⟩ := qld_some hf
  refine r_sld O S 266 rfl hin265 dL_law_265 ?_
  rw [← ex265]
  refine r_ald_n O 267 rfl 0 rfl dL_law_266 ?_
  refine r_ild_n O 268 rfl 3 rfl dL_law_267 ?_
  refine r_bi O 270 rfl 6 (by decide) dL_law_268 ?_
  refine r_iadd O 271 rfl dL_law_270 ?_
  obtain ⟨x271, ex271, hin271, hf⟩ := qld_some hf
  refine r_sld O S 272 rfl hin271 dL_law_271 ?_
  rw [← ex271]
  obtain ⟨x272, p272_t, p272_w, p272_H, p272_k0, p272_k1, p272_k2, p272_k3, p272_k4, p272_k5, p272_k6, p272_k7, hq272, hf⟩ := qb12_some hf
  refine k_VI O 275 rfl (zX9_addWall (l := xl X) (D := xD X) (cI := cI) (cZ := cZ) (cQ := cQ) (h_t := h_t) (h_w := h_w) (r_b := (h_b 0)) (r_l := (h_l 0)) (h_H := h_H) (h_k0 := h_k0) (h_k1 := h_k1) (h_k2 := h_k2) (h_k3 := h_k3) (h_k4 := h_k4) (h_k5 := h_k5) (h_k6 := h_k6) (h_k7 := h_k7) (r_x := (h_x 0)) (r_T := (h_T 0)) (r_C := (h_C 0)) (r_d := (h_d 0)) (r_F := (h_F 0)) (r_r := (h_r 0)) (r_n := (h_n 0)) hq272) (gV mlL_13 mvX9_addWall izX9) rfl rfl rfl hdX9_addWall ⟨Nat.le_of_ble_eq_true rfl, Nat.le_of_ble_eq_true rfl⟩ rfl 0 rfl rfl rfl rfl (Nat.le_of_ble_eq_true rfl) ⟨Nat.le_of_ble_eq_true rfl, Nat.le_of_ble_eq_true rfl⟩ [0, 1, 4, 5, 6, 7, 8, 9, 10, 11, 12] rfl rfl rfl ([nX9 cI cZ cQ h_t (h_w 0) (h_b 0) (h_l 0) (h_H 0) (h_x 0) (h_T 0) (h_C 0) (h_d 0) (h_F 0) (h_r 0) (h_n 0) p272_t, nX8 cI cZ cQ h_w p272_w, nX8 cI cZ cQ h_b w_b, nX8 cI cZ cQ h_l w_l, nX2 cI cZ cQ h_H (hkf h_k0 h_k1 h_k2 h_k3 h_k4 h_k5 h_k6 h_k7) p272_H, nX8 cI cZ cQ h_k0 p272_k0, nX8 cI cZ cQ h_k1 p272_k1, nX8 cI cZ cQ h_k2 p272_k2, nX8 cI cZ cQ h_k3 p272_k3, nX8 cI cZ cQ h_k4 p272_k4, nX8 cI cZ cQ h_k5 p272_k5, nX8 cI cZ cQ h_k6 p272_k6, nX8 cI cZ cQ h_k7 p272_k7, nX7 cI cZ cQ h_x w_x, nX6 cI cZ cQ h_T (h_w 0) (h_L 0) (h_P 0) w_T, nX4 cI cZ cQ h_L (h_w 0) w_L, nX4 cI cZ cQ h_P (h_w 0) w_P, nX6 cI cZ cQ h_C (h_w 0) (h_M 0) (h_Q 0) w_C, nX4 cI cZ cQ h_M (h_w 0) w_M, nX4 cI cZ cQ h_Q (h_w 0) w_Q, nX0 cI cZ cQ h_d (h_w 0) (h_T 0) w_d, nX1 cI cZ cQ h_F (h_G 0) w_F, nX4 cI cZ cQ h_G (h_w 0) w_G, nX5 cI cZ cQ h_r (h_w 0) w_r, nX3 cI cZ cQ h_n (h_w 0) w_n, nX10 cI cZ cQ h_m w_m]) rfl dL_law_272 ?_
  refine r_ald_n O 276 rfl 2 rfl dL_law_275 ?_
  refine r_ald_n O 277 rfl 0 rfl dL_law_276 ?_
  refine r_ild_n O 278 rfl 3 rfl dL_law_277 ?_
  refine r_ic O 279 rfl 1 (by decide) dL_law_278 ?_
  refine r_iadd O 280 rfl dL_law_279 ?_
  obtain ⟨x280, ex280, hin280, hf⟩ := qld_some hf
  refine r_sld O S 281 rfl hin280 dL_law_280 ?_
  rw [← ex280]
  refine r_ald_n O 282 rfl 0 rfl dL_law_281 ?_
  refine r_ild_n O 283 rfl 3 rfl dL_law_282 ?_
  refine r_ic O 284 rfl 2 (by decide) dL_law_283 ?_
  refine r_iadd O 285 rfl dL_law_284 ?_
  obtain ⟨x285, ex285, hin285, hf⟩ := qld_some hf
  refine r_sld O S 286 rfl hin285 dL_law_285 ?_
  rw [← ex285]
  refine r_ald_n O 287 rfl 0 rfl dL_law_286 ?_
  refine r_ild_n O 288 rfl 3 rfl dL_law_287 ?_
  refine r_ic O 289 rfl 3 (by decide) dL_law_288 ?_
  refine r_iadd O 290 rfl dL_law_289 ?_
  obtain ⟨x290, ex290, hin290, hf⟩ := qld_some hf
  refine r_sld O S 291 rfl hin290 dL_law_290 ?_
  rw [← ex290]
  refine r_ald_n O 292 rfl 0 rfl dL_law_291 ?_
  refine r_ild_n O 293 rfl 3 rfl dL_law_292 ?_
  refine r_ic O 294 rfl 4 (by decide) dL_law_293 ?_
  refine r_iadd O 295 rfl dL_law_294 ?_
  obtain ⟨x295, ex295, hin295, hf⟩ := qld_some hf
  refine r_sld O S 296 rfl hin295 dL_law_295 ?_
  rw [← ex295]
  refine r_ald_n O 297 rfl 0 rfl dL_law_296 ?_
  refine r_ild_n O 298 rfl 3 rfl dL_law_297 ?_
  refine r_ic O 299 rfl 5 (by decide) dL_law_298 ?_
  refine r_iadd O 300 rfl dL_law_299 ?_
  obtain ⟨x300, ex300, hin300, hf⟩ := qld_some hf
  refine r_sld O S 301 rfl hin300 dL_law_300 ?_
  rw [← ex300]
  refine r_ald_n O 302 rfl 0 rfl dL_law_301 ?_
  refine r_ild_n O 303 rfl 3 rfl dL_law_302 ?_
  refine r_bi O 305 rfl 6 (by decide) dL_law_303 ?_
  refine r_iadd O 306 rfl dL_law_305 ?_
  obtain ⟨x306, ex306, hin306, hf⟩ := qld_some hf
  refine r_sld O S 307 rfl hin306 dL_law_306 ?_
  rw [← ex306]
  obtain ⟨x307, p307_m, hq307, hf⟩ := qb2_some hf
  refine k_VI O 310 rfl (zX10_addWall (l := xl X) (D := xD X) (cI := cI) (cZ := cZ) (cQ := cQ) (h_t := h_m) hq307) (gV mlL_17 mvX10_addWall izX10) rfl rfl rfl hdX10_addWall ⟨Nat.le_of_ble_eq_true rfl, Nat.le_of_ble_eq_true rfl⟩ rfl 25 rfl rfl rfl rfl (Nat.le_of_ble_eq_true rfl) ⟨Nat.le_of_ble_eq_true rfl, Nat.le_of_ble_eq_true rfl⟩ [25] rfl rfl rfl ([nX9 cI cZ cQ h_t (h_w 0) (h_b 0) (h_l 0) (h_H 0) (h_x 0) (h_T 0) (h_C 0) (h_d 0) (h_F 0) (h_r 0) (h_n 0) p272_t, nX8 cI cZ cQ h_w p272_w, nX8 cI cZ cQ h_b w_b, nX8 cI cZ cQ h_l w_l, nX2 cI cZ cQ h_H (hkf h_k0 h_k1 h_k2 h_k3 h_k4 h_k5 h_k6 h_k7) p272_H, nX8 cI cZ cQ h_k0 p272_k0, nX8 cI cZ cQ h_k1 p272_k1, nX8 cI cZ cQ h_k2 p272_k2, nX8 cI cZ cQ h_k3 p272_k3, nX8 cI cZ cQ h_k4 p272_k4, nX8 cI cZ cQ h_k5 p272_k5, nX8 cI cZ cQ h_k6 p272_k6, nX8 cI cZ cQ h_k7 p272_k7, nX7 cI cZ cQ h_x w_x, nX6 cI cZ cQ h_T (h_w 0) (h_L 0) (h_P 0) w_T, nX4 cI cZ cQ h_L (h_w 0) w_L, nX4 cI cZ cQ h_P (h_w 0) w_P, nX6 cI cZ cQ h_C (h_w 0) (h_M 0) (h_Q 0) w_C, nX4 cI cZ cQ h_M (h_w 0) w_M, nX4 cI cZ cQ h_Q (h_w 0) w_Q, nX0 cI cZ cQ h_d (h_w 0) (h_T 0) w_d, nX1 cI cZ cQ h_F (h_G 0) w_F, nX4 cI cZ cQ h_G (h_w 0) w_G, nX5 cI cZ cQ h_r (h_w 0) w_r, nX3 cI cZ cQ h_n (h_w 0) w_n, nX10 cI cZ cQ h_m p307_m]) rfl dL_law_307 ?_
  refine r_icmp_eq O 313 rfl 1795 dL_law_310 (by decide) (fun hc310 => ?_) (fun hc310 => ?_)
  · rw [if_pos hc310] at hf
    exact lwB1795 O S E rec18 hrec18 _ _ _ _ _ _ _ _ _ _ _ _ _ _ _ _ _ _ _ _ _ _ _ _ _ _ _ hf
  · rw [if_neg hc310] at hf
    refine r_ic O 314 rfl 0 (by decide) dL_law_313 ?_
    exact absurd (qe1 hf) (by decide)
set_option maxHeartbeats 40000000 in
set_option maxRecDepth 100000 in
theorem lwB496 {X : Cx} {cI cZ cQ : ClassId} {bS L : Nat} {xs : Nat → Int32} (O : OK X cL_law 8 RL wB room_1 cI cZ cQ) (S : SX X bS L xs) (E : ∀ {pc : Nat} {ws : List va_W} {lv : List (Nat × Value)}, decode cL_law pc = .ok (.ireturn, 1) → BK X 8 177 15831 pc ws lv [.int 1]) {h_t h_w h_b h_l h_H h_k0 h_k1 h_k2 h_k3 h_k4 h_k5 h_k6 h_k7 h_x h_T h_L h_P h_C h_M h_Q h_d h_F h_G h_r h_n h_m : Nat → Nat} (rec18 : Pk → Pk → Pk → Pk → Pk → Pk → Pk → Pk → Pk → Pk → Pk → Pk → Pk → Pk → Pk → Pk → Pk → Pk → Pk → Pk → Pk → Pk → Pk → Pk → Pk → Pk → Int32 → Option Int32) (hrec18 : ∀ (w_t : Pk) (w_w : Pk) (w_b : Pk) (w_l : Pk) (w_H : Pk) (w_k0 : Pk) (w_k1 : Pk) (w_k2 : Pk) (w_k3 : Pk) (w_k4 : Pk) (w_k5 : Pk) (w_k6 : Pk) (w_k7 : Pk) (w_x : Pk) (w_T : Pk) (w_L : Pk) (w_P : Pk) (w_C : Pk) (w_M : Pk) (w_Q : Pk) (w_d : Pk) (w_F : Pk) (w_G : Pk) (w_r : Pk) (w_n : Pk) (w_m : Pk) (y3 : Int32), rec18 w_t w_w w_b w_l w_H w_k0 w_k1 w_k2 w_k3 w_k4 w_k5 w_k6 w_k7 w_x w_T w_L w_P w_C w_M w_Q w_d w_F w_G w_r w_n w_m y3 = some 1 → BK X 8 177 15831 18 ([nX9 cI cZ cQ h_t (h_w 0) (h_b 0) (h_l 0) (h_H 0) (h_x 0) (h_T 0) (h_C 0) (h_d 0) (h_F 0) (h_r 0) (h_n 0) w_t, nX8 cI cZ cQ h_w w_w, nX8 cI cZ cQ h_b w_b, nX8 cI cZ cQ h_l w_l, nX2 cI cZ cQ h_H (hkf h_k0 h_k1 h_k2 h_k3 h_k4 h_k5 h_k6 h_k7) w_H, nX8 cI cZ cQ h_k0 w_k0, nX8 cI cZ cQ h_k1 w_k1, nX8 cI cZ cQ h_k2 w_k2, nX8 cI cZ cQ h_k3 w_k3, nX8 cI cZ cQ h_k4 w_k4, nX8 cI cZ cQ h_k5 w_k5, nX8 cI cZ cQ h_k6 w_k6, nX8 cI cZ cQ h_k7 w_k7, nX7 cI cZ cQ h_x w_x, nX6 cI cZ cQ h_T (h_w 0) (h_L 0) (h_P 0) w_T, nX4 cI cZ cQ h_L (h_w 0) w_L, nX4 cI cZ cQ h_P (h_w 0) w_P, nX6 cI cZ cQ h_C (h_w 0) (h_M 0) (h_Q 0) w_C, nX4 cI cZ cQ h_M (h_w 0) w_M, nX4 cI cZ cQ h_Q (h_w 0) w_Q, nX0 cI cZ cQ h_d (h_w 0) (h_T 0) w_d, nX1 cI cZ cQ h_F (h_G 0) w_F, nX4 cI cZ cQ h_G (h_w 0) w_G, nX5 cI cZ cQ h_r (h_w 0) w_r, nX3 cI cZ cQ h_n (h_w 0) w_n, nX10 cI cZ cQ h_m w_m]) [(0, .ref bS), (1, .ref (h_t 0)), (2, .ref (h_m 0)), (3, .int y3)] []) : ∀ (w_t : Pk) (w_w : Pk) (w_b : Pk) (w_l : Pk) (w_H : Pk) (w_k0 : Pk) (w_k1 : Pk) (w_k2 : Pk) (w_k3 : Pk) (w_k4 : Pk) (w_k5 : Pk) (w_k6 : Pk) (w_k7 : Pk) (w_x : Pk) (w_T : Pk) (w_L : Pk) (w_P : Pk) (w_C : Pk) (w_M : Pk) (w_Q : Pk) (w_d : Pk) (w_F : Pk) (w_G : Pk) (w_r : Pk) (w_n : Pk) (w_m : Pk) (y3 : Int32), fL_b496 L xs rec18 w_t w_w w_b w_l w_H w_k0 w_k1 w_k2 w_k3 w_k4 w_k5 w_k6 w_k7 w_x w_T w_L w_P w_C w_M w_Q w_d w_F w_G w_r w_n w_m y3 = some 1 → BK X 8 177 15831 496 ([nX9 cI cZ cQ h_t (h_w 0) (h_b 0) (h_l 0) (h_H 0) (h_x 0) (h_T 0) (h_C 0) (h_d 0) (h_F 0) (h_r 0) (h_n 0) w_t, nX8 cI cZ cQ h_w w_w, nX8 cI cZ cQ h_b w_b, nX8 cI cZ cQ h_l w_l, nX2 cI cZ cQ h_H (hkf h_k0 h_k1 h_k2 h_k3 h_k4 h_k5 h_k6 h_k7) w_H, nX8 cI cZ cQ h_k0 w_k0, nX8 cI cZ cQ h_k1 w_k1, nX8 cI cZ cQ h_k2 w_k2, nX8 cI cZ cQ h_k3 w_k3, nX8 cI cZ cQ h_k4 w_k4, nX8 cI cZ cQ h_k5 w_k5, nX8 cI cZ cQ h_k6 w_k6, nX8 cI cZ cQ h_k7 w_k7, nX7 cI cZ cQ h_x w_x, nX6 cI cZ cQ h_T (h_w 0) (h_L 0) (h_P 0) w_T, nX4 cI cZ cQ h_L (h_w 0) w_L, nX4 cI cZ cQ h_P (h_w 0) w_P, nX6 cI cZ cQ h_C (h_w 0) (h_M 0) (h_Q 0) w_C, nX4 cI cZ cQ h_M (h_w 0) w_M, nX4 cI cZ cQ h_Q (h_w 0) w_Q, nX0 cI cZ cQ h_d (h_w 0) (h_T 0) w_d, nX1 cI cZ cQ h_F (h_G 0) w_F, nX4 cI cZ cQ h_G (h_w 0) w_G, nX5 cI cZ cQ h_r (h_w 0) w_r, nX3 cI cZ cQ h_n (h_w 0) w_n, nX10 cI cZ cQ h_m w_m]) [(0, .ref bS), (1, .ref (h_t 0)), (2, .ref (h_m 0)), (3, .int y3)] [] := by
  intro w_t w_w w_b w_l w_H w_k0 w_k1 w_k2 w_k3 w_k4 w_k5 w_k6 w_k7 w_x w_T w_L w_P w_C w_M w_Q w_d w_F w_G w_r w_n w_m y3 hf
  unfold fL_b496 at hf
  refine r_ald_n O 497 rfl 1 rfl dL_law_496 ?_
  refine r_ald_n O 498 rfl 0 rfl dL_law_497 ?_
  refine r_ild_n O 499 rfl 3 rfl dL_law_498 ?_
  refine r_ic O 500 rfl 1 (by decide) dL_law_499 ?_
  refine r_iadd O 501 rfl dL_law_500 ?_
  obtain ⟨x501, ex501, hin501, hf⟩ := qld_some hf
  refine r_sld O S 502 rfl hin501 dL_law_501 ?_
  rw [← ex501]
  refine r_ald_n O 503 rfl 0 rfl dL_law_502 ?_
  refine r_ild_n O 504 rfl 3 rfl dL_law_503 ?_
  refine r_ic O 505 rfl 2 (by decide) dL_law_504 ?_
  refine r_iadd O 506 rfl dL_law_505 ?_
  obtain ⟨x506, ex506, hin506, hf⟩ := qld_some hf
  refine r_sld O S 507 rfl hin506 dL_law_506 ?_
  rw [← ex506]
  obtain ⟨x507, hq507, hf⟩ := qb1_some hf
  refine k_VI O 510 rfl (zX9_coordinate (l := xl X) (D := xD X) (cI := cI) (cZ := cZ) (cQ := cQ) (h_t := h_t) (h_w := h_w) (r_b := (h_b 0)) (r_l := (h_l 0)) (r_H := (h_H 0)) (r_x := (h_x 0)) (r_T := (h_T 0)) (r_C := (h_C 0)) (r_d := (h_d 0)) (r_F := (h_F 0)) (r_r := (h_r 0)) (r_n := (h_n 0)) hq507) (gV mlL_50 mvX9_coordinate izX9) rfl rfl rfl hdX9_coordinate ⟨Nat.le_of_ble_eq_true rfl, Nat.le_of_ble_eq_true rfl⟩ rfl 0 rfl rfl rfl rfl (Nat.le_of_ble_eq_true rfl) ⟨Nat.le_of_ble_eq_true rfl, Nat.le_of_ble_eq_true rfl⟩ [0, 1] rfl rfl rfl ([nX9 cI cZ cQ h_t (h_w 0) (h_b 0) (h_l 0) (h_H 0) (h_x 0) (h_T 0) (h_C 0) (h_d 0) (h_F 0) (h_r 0) (h_n 0) w_t, nX8 cI cZ cQ h_w w_w, nX8 cI cZ cQ h_b w_b, nX8 cI cZ cQ h_l w_l, nX2 cI cZ cQ h_H (hkf h_k0 h_k1 h_k2 h_k3 h_k4 h_k5 h_k6 h_k7) w_H, nX8 cI cZ cQ h_k0 w_k0, nX8 cI cZ cQ h_k1 w_k1, nX8 cI cZ cQ h_k2 w_k2, nX8 cI cZ cQ h_k3 w_k3, nX8 cI cZ cQ h_k4 w_k4, nX8 cI cZ cQ h_k5 w_k5, nX8 cI cZ cQ h_k6 w_k6, nX8 cI cZ cQ h_k7 w_k7, nX7 cI cZ cQ h_x w_x, nX6 cI cZ cQ h_T (h_w 0) (h_L 0) (h_P 0) w_T, nX4 cI cZ cQ h_L (h_w 0) w_L, nX4 cI cZ cQ h_P (h_w 0) w_P, nX6 cI cZ cQ h_C (h_w 0) (h_M 0) (h_Q 0) w_C, nX4 cI cZ cQ h_M (h_w 0) w_M, nX4 cI cZ cQ h_Q (h_w 0) w_Q, nX0 cI cZ cQ h_d (h_w 0) (h_T 0) w_d, nX1 cI cZ cQ h_F (h_G 0) w_F, nX4 cI cZ cQ h_G (h_w 0) w_G, nX5 cI cZ cQ h_r (h_w 0) w_r, nX3 cI cZ cQ h_n (h_w 0) w_n, nX10 cI cZ cQ h_m w_m]) rfl dL_law_507 ?_
  refine r_ald_n O 511 rfl 2 rfl dL_law_510 ?_
  refine r_ald_n O 512 rfl 0 rfl dL_law_511 ?_
  refine r_ild_n O 513 rfl 3 rfl dL_law_512 ?_
  refine r_ic O 514 rfl 1 (by decide) dL_law_513 ?_
  refine r_iadd O 515 rfl dL_law_514 ?_
  obtain ⟨x515, ex515, hin515, hf⟩ := qld_some hf
  refine r_sld O S 516 rfl hin515 dL_law_515 ?_
  rw [← ex515]
  refine r_ald_n O 517 rfl 0 rfl dL_law_516 ?_
  refine r_ild_n O 518 rfl 3 rfl dL_law_517 ?_
  refine r_ic O 519 rfl 2 (by decide) dL_law_518 ?_
  refine r_iadd O 520 rfl dL_law_519 ?_
  obtain ⟨x520, ex520, hin520, hf⟩ := qld_some hf
  refine r_sld O S 521 rfl hin520 dL_law_520 ?_
  rw [← ex520]
  obtain ⟨x521, hq521, hf⟩ := qb1_some hf
  refine k_VI O 524 rfl (zX10_coordinate (l := xl X) (D := xD X) (cI := cI) (cZ := cZ) (cQ := cQ) (h_t := h_m) hq521) (gV mlL_53 mvX10_coordinate izX10) rfl rfl rfl hdX10_coordinate ⟨Nat.le_of_ble_eq_true rfl, Nat.le_of_ble_eq_true rfl⟩ rfl 25 rfl rfl rfl rfl (Nat.le_of_ble_eq_true rfl) ⟨Nat.le_of_ble_eq_true rfl, Nat.le_of_ble_eq_true rfl⟩ [25] rfl rfl rfl ([nX9 cI cZ cQ h_t (h_w 0) (h_b 0) (h_l 0) (h_H 0) (h_x 0) (h_T 0) (h_C 0) (h_d 0) (h_F 0) (h_r 0) (h_n 0) w_t, nX8 cI cZ cQ h_w w_w, nX8 cI cZ cQ h_b w_b, nX8 cI cZ cQ h_l w_l, nX2 cI cZ cQ h_H (hkf h_k0 h_k1 h_k2 h_k3 h_k4 h_k5 h_k6 h_k7) w_H, nX8 cI cZ cQ h_k0 w_k0, nX8 cI cZ cQ h_k1 w_k1, nX8 cI cZ cQ h_k2 w_k2, nX8 cI cZ cQ h_k3 w_k3, nX8 cI cZ cQ h_k4 w_k4, nX8 cI cZ cQ h_k5 w_k5, nX8 cI cZ cQ h_k6 w_k6, nX8 cI cZ cQ h_k7 w_k7, nX7 cI cZ cQ h_x w_x, nX6 cI cZ cQ h_T (h_w 0) (h_L 0) (h_P 0) w_T, nX4 cI cZ cQ h_L (h_w 0) w_L, nX4 cI cZ cQ h_P (h_w 0) w_P, nX6 cI cZ cQ h_C (h_w 0) (h_M 0) (h_Q 0) w_C, nX4 cI cZ cQ h_M (h_w 0) w_M, nX4 cI cZ cQ h_Q (h_w 0) w_Q, nX0 cI cZ cQ h_d (h_w 0) (h_T 0) w_d, nX1 cI cZ cQ h_F (h_G 0) w_F, nX4 cI cZ cQ h_G (h_w 0) w_G, nX5 cI cZ cQ h_r (h_w 0) w_r, nX3 cI cZ cQ h_n (h_w 0) w_n, nX10 cI cZ cQ h_m w_m]) rfl dL_law_521 ?_
  refine r_icmp_eq O 527 rfl 1795 dL_law_524 (by decide) (fun hc524 => ?_) (fun hc524 => ?_)
  · rw [if_pos hc524] at hf
    exact lwB1795 O S E rec18 hrec18 _ _ _ _ _ _ _ _ _ _ _ _ _ _ _ _ _ _ _ _ _ _ _ _ _ _ _ hf
  · rw [if_neg hc524] at hf
    refine r_ic O 528 rfl 0 (by decide) dL_law_527 ?_
    exact absurd (qe1 hf) (by decide)
set_option maxHeartbeats 40000000 in
set_option maxRecDepth 100000 in
theorem lwB1008 {X : Cx} {cI cZ cQ : ClassId} {bS L : Nat} {xs : Nat → Int32} (O : OK X cL_law 8 RL wB room_1 cI cZ cQ) (S : SX X bS L xs) (E : ∀ {pc : Nat} {ws : List va_W} {lv : List (Nat × Value)}, decode cL_law pc = .ok (.ireturn, 1) → BK X 8 177 15831 pc ws lv [.int 1]) {h_t h_w h_b h_l h_H h_k0 h_k1 h_k2 h_k3 h_k4 h_k5 h_k6 h_k7 h_x h_T h_L h_P h_C h_M h_Q h_d h_F h_G h_r h_n h_m : Nat → Nat} (rec18 : Pk → Pk → Pk → Pk → Pk → Pk → Pk → Pk → Pk → Pk → Pk → Pk → Pk → Pk → Pk → Pk → Pk → Pk → Pk → Pk → Pk → Pk → Pk → Pk → Pk → Pk → Int32 → Option Int32) (hrec18 : ∀ (w_t : Pk) (w_w : Pk) (w_b : Pk) (w_l : Pk) (w_H : Pk) (w_k0 : Pk) (w_k1 : Pk) (w_k2 : Pk) (w_k3 : Pk) (w_k4 : Pk) (w_k5 : Pk) (w_k6 : Pk) (w_k7 : Pk) (w_x : Pk) (w_T : Pk) (w_L : Pk) (w_P : Pk) (w_C : Pk) (w_M : Pk) (w_Q : Pk) (w_d : Pk) (w_F : Pk) (w_G : Pk) (w_r : Pk) (w_n : Pk) (w_m : Pk) (y3 : Int32), rec18 w_t w_w w_b w_l w_H w_k0 w_k1 w_k2 w_k3 w_k4 w_k5 w_k6 w_k7 w_x w_T w_L w_P w_C w_M w_Q w_d w_F w_G w_r w_n w_m y3 = some 1 → BK X 8 177 15831 18 ([nX9 cI cZ cQ h_t (h_w 0) (h_b 0) (h_l 0) (h_H 0) (h_x 0) (h_T 0) (h_C 0) (h_d 0) (h_F 0) (h_r 0) (h_n 0) w_t, nX8 cI cZ cQ h_w w_w, nX8 cI cZ cQ h_b w_b, nX8 cI cZ cQ h_l w_l, nX2 cI cZ cQ h_H (hkf h_k0 h_k1 h_k2 h_k3 h_k4 h_k5 h_k6 h_k7) w_H, nX8 cI cZ cQ h_k0 w_k0, nX8 cI cZ cQ h_k1 w_k1, nX8 cI cZ cQ h_k2 w_k2, nX8 cI cZ cQ h_k3 w_k3, nX8 cI cZ cQ h_k4 w_k4, nX8 cI cZ cQ h_k5 w_k5, nX8 cI cZ cQ h_k6 w_k6, nX8 cI cZ cQ h_k7 w_k7, nX7 cI cZ cQ h_x w_x, nX6 cI cZ cQ h_T (h_w 0) (h_L 0) (h_P 0) w_T, nX4 cI cZ cQ h_L (h_w 0) w_L, nX4 cI cZ cQ h_P (h_w 0) w_P, nX6 cI cZ cQ h_C (h_w 0) (h_M 0) (h_Q 0) w_C, nX4 cI cZ cQ h_M (h_w 0) w_M, nX4 cI cZ cQ h_Q (h_w 0) w_Q, nX0 cI cZ cQ h_d (h_w 0) (h_T 0) w_d, nX1 cI cZ cQ h_F (h_G 0) w_F, nX4 cI cZ cQ h_G (h_w 0) w_G, nX5 cI cZ cQ h_r (h_w 0) w_r, nX3 cI cZ cQ h_n (h_w 0) w_n, nX10 cI cZ cQ h_m w_m]) [(0, .ref bS), (1, .ref (h_t 0)), (2, .ref (h_m 0)), (3, .int y3)] []) : ∀ (w_t : Pk) (w_w : Pk) (w_b : Pk) (w_l : Pk) (w_H : Pk) (w_k0 : Pk) (w_k1 : Pk) (w_k2 : Pk) (w_k3 : Pk) (w_k4 : Pk) (w_k5 : Pk) (w_k6 : Pk) (w_k7 : Pk) (w_x : Pk) (w_T : Pk) (w_L : Pk) (w_P : Pk) (w_C : Pk) (w_M : Pk) (w_Q : Pk) (w_d : Pk) (w_F : Pk) (w_G : Pk) (w_r : Pk) (w_n : Pk) (w_m : Pk) (y3 : Int32), fL_b1008 L xs rec18 w_t w_w w_b w_l w_H w_k0 w_k1 w_k2 w_k3 w_k4 w_k5 w_k6 w_k7 w_x w_T w_L w_P w_C w_M w_Q w_d w_F w_G w_r w_n w_m y3 = some 1 → BK X 8 177 15831 1008 ([nX9 cI cZ cQ h_t (h_w 0) (h_b 0) (h_l 0) (h_H 0) (h_x 0) (h_T 0) (h_C 0) (h_d 0) (h_F 0) (h_r 0) (h_n 0) w_t, nX8 cI cZ cQ h_w w_w, nX8 cI cZ cQ h_b w_b, nX8 cI cZ cQ h_l w_l, nX2 cI cZ cQ h_H (hkf h_k0 h_k1 h_k2 h_k3 h_k4 h_k5 h_k6 h_k7) w_H, nX8 cI cZ cQ h_k0 w_k0, nX8 cI cZ cQ h_k1 w_k1, nX8 cI cZ cQ h_k2 w_k2, nX8 cI cZ cQ h_k3 w_k3, nX8 cI cZ cQ h_k4 w_k4, nX8 cI cZ cQ h_k5 w_k5, nX8 cI cZ cQ h_k6 w_k6, nX8 cI cZ cQ h_k7 w_k7, nX7 cI cZ cQ h_x w_x, nX6 cI cZ cQ h_T (h_w 0) (h_L 0) (h_P 0) w_T, nX4 cI cZ cQ h_L (h_w 0) w_L, nX4 cI cZ cQ h_P (h_w 0) w_P, nX6 cI cZ cQ h_C (h_w 0) (h_M 0) (h_Q 0) w_C, nX4 cI cZ cQ h_M (h_w 0) w_M, nX4 cI cZ cQ h_Q (h_w 0) w_Q, nX0 cI cZ cQ h_d (h_w 0) (h_T 0) w_d, nX1 cI cZ cQ h_F (h_G 0) w_F, nX4 cI cZ cQ h_G (h_w 0) w_G, nX5 cI cZ cQ h_r (h_w 0) w_r, nX3 cI cZ cQ h_n (h_w 0) w_n, nX10 cI cZ cQ h_m w_m]) [(0, .ref bS), (1, .ref (h_t 0)), (2, .ref (h_m 0)), (3, .int y3)] [] := by
  intro w_t w_w w_b w_l w_H w_k0 w_k1 w_k2 w_k3 w_k4 w_k5 w_k6 w_k7 w_x w_T w_L w_P w_C w_M w_Q w_d w_F w_G w_r w_n w_m y3 hf
  unfold fL_b1008 at hf
  refine r_ald_n O 1009 rfl 1 rfl dL_law_1008 ?_
  refine r_ald_n O 1010 rfl 0 rfl dL_law_1009 ?_
  refine r_ild_n O 1011 rfl 3 rfl dL_law_1010 ?_
  refine r_ic O 1012 rfl 1 (by decide) dL_law_1011 ?_
  refine r_iadd O 1013 rfl dL_law_1012 ?_
  obtain ⟨x1013, ex1013, hin1013, hf⟩ := qld_some hf
  refine r_sld O S 1014 rfl hin1013 dL_law_1013 ?_
  rw [← ex1013]
  refine r_ald_n O 1015 rfl 0 rfl dL_law_1014 ?_
  refine r_ild_n O 1016 rfl 3 rfl dL_law_1015 ?_
  refine r_ic O 1017 rfl 2 (by decide) dL_law_1016 ?_
  refine r_iadd O 1018 rfl dL_law_1017 ?_
  obtain ⟨x1018, ex1018, hin1018, hf⟩ := qld_some hf
  refine r_sld O S 1019 rfl hin1018 dL_law_1018 ?_
  rw [← ex1018]
  refine r_ald_n O 1020 rfl 0 rfl dL_law_1019 ?_
  refine r_ild_n O 1021 rfl 3 rfl dL_law_1020 ?_
  refine r_ic O 1022 rfl 3 (by decide) dL_law_1021 ?_
  refine r_iadd O 1023 rfl dL_law_1022 ?_
  obtain ⟨x1023, ex1023, hin1023, hf⟩ := qld_some hf
  refine r_sld O S 1024 rfl hin1023 dL_law_1023 ?_
  rw [← ex1023]
  obtain ⟨x1024, p1024_t, p1024_b, p1024_T, p1024_L, p1024_P, p1024_d, hq1024, hf⟩ := qb7_some hf
  refine k_VI O 1027 rfl (zX9_drawPiece (l := xl X) (D := xD X) (cI := cI) (cZ := cZ) (cQ := cQ) (h_t := h_t) (h_w := h_w) (h_b := h_b) (r_l := (h_l 0)) (r_H := (h_H 0)) (r_x := (h_x 0)) (h_T := h_T) (h_L := h_L) (h_P := h_P) (r_C := (h_C 0)) (h_d := h_d) (r_F := (h_F 0)) (r_r := (h_r 0)) (r_n := (h_n 0)) hq1024) (gV mlL_140 mvX9_drawPiece izX9) rfl rfl rfl hdX9_drawPiece ⟨Nat.le_of_ble_eq_true rfl, Nat.le_of_ble_eq_true rfl⟩ rfl 0 rfl rfl rfl rfl (Nat.le_of_ble_eq_true rfl) ⟨Nat.le_of_ble_eq_true rfl, Nat.le_of_ble_eq_true rfl⟩ [0, 1, 2, 14, 15, 16, 20] rfl rfl rfl ([nX9 cI cZ cQ h_t (h_w 0) (h_b 0) (h_l 0) (h_H 0) (h_x 0) (h_T 0) (h_C 0) (h_d 0) (h_F 0) (h_r 0) (h_n 0) p1024_t, nX8 cI cZ cQ h_w w_w, nX8 cI cZ cQ h_b p1024_b, nX8 cI cZ cQ h_l w_l, nX2 cI cZ cQ h_H (hkf h_k0 h_k1 h_k2 h_k3 h_k4 h_k5 h_k6 h_k7) w_H, nX8 cI cZ cQ h_k0 w_k0, nX8 cI cZ cQ h_k1 w_k1, nX8 cI cZ cQ h_k2 w_k2, nX8 cI cZ cQ h_k3 w_k3, nX8 cI cZ cQ h_k4 w_k4, nX8 cI cZ cQ h_k5 w_k5, nX8 cI cZ cQ h_k6 w_k6, nX8 cI cZ cQ h_k7 w_k7, nX7 cI cZ cQ h_x w_x, nX6 cI cZ cQ h_T (h_w 0) (h_L 0) (h_P 0) p1024_T, nX4 cI cZ cQ h_L (h_w 0) p1024_L, nX4 cI cZ cQ h_P (h_w 0) p1024_P, nX6 cI cZ cQ h_C (h_w 0) (h_M 0) (h_Q 0) w_C, nX4 cI cZ cQ h_M (h_w 0) w_M, nX4 cI cZ cQ h_Q (h_w 0) w_Q, nX0 cI cZ cQ h_d (h_w 0) (h_T 0) p1024_d, nX1 cI cZ cQ h_F (h_G 0) w_F, nX4 cI cZ cQ h_G (h_w 0) w_G, nX5 cI cZ cQ h_r (h_w 0) w_r, nX3 cI cZ cQ h_n (h_w 0) w_n, nX10 cI cZ cQ h_m w_m]) rfl dL_law_1024 ?_
  refine r_ald_n O 1028 rfl 2 rfl dL_law_1027 ?_
  refine r_ald_n O 1029 rfl 0 rfl dL_law_1028 ?_
  refine r_ild_n O 1030 rfl 3 rfl dL_law_1029 ?_
  refine r_ic O 1031 rfl 1 (by decide) dL_law_1030 ?_
  refine r_iadd O 1032 rfl dL_law_1031 ?_
  obtain ⟨x1032, ex1032, hin1032, hf⟩ := qld_some hf
  refine r_sld O S 1033 rfl hin1032 dL_law_1032 ?_
  rw [← ex1032]
  refine r_ald_n O 1034 rfl 0 rfl dL_law_1033 ?_
  refine r_ild_n O 1035 rfl 3 rfl dL_law_1034 ?_
  refine r_ic O 1036 rfl 2 (by decide) dL_law_1035 ?_
  refine r_iadd O 1037 rfl dL_law_1036 ?_
  obtain ⟨x1037, ex1037, hin1037, hf⟩ := qld_some hf
  refine r_sld O S 1038 rfl hin1037 dL_law_1037 ?_
  rw [← ex1037]
  refine r_ald_n O 1039 rfl 0 rfl dL_law_1038 ?_
  refine r_ild_n O 1040 rfl 3 rfl dL_law_1039 ?_
  refine r_ic O 1041 rfl 3 (by decide) dL_law_1040 ?_
  refine r_iadd O 1042 rfl dL_law_1041 ?_
  obtain ⟨x1042, ex1042, hin1042, hf⟩ := qld_some hf
  refine r_sld O S 1043 rfl hin1042 dL_law_1042 ?_
  rw [← ex1042]
  obtain ⟨x1043, p1043_m, hq1043, hf⟩ := qb2_some hf
  refine k_VI O 1046 rfl (zX10_drawPiece (l := xl X) (D := xD X) (cI := cI) (cZ := cZ) (cQ := cQ) (h_t := h_m) hq1043) (gV mlL_143 mvX10_drawPiece izX10) rfl rfl rfl hdX10_drawPiece ⟨Nat.le_of_ble_eq_true rfl, Nat.le_of_ble_eq_true rfl⟩ rfl 25 rfl rfl rfl rfl (Nat.le_of_ble_eq_true rfl) ⟨Nat.le_of_ble_eq_true rfl, Nat.le_of_ble_eq_true rfl⟩ [25] rfl rfl rfl ([nX9 cI cZ cQ h_t (h_w 0) (h_b 0) (h_l 0) (h_H 0) (h_x 0) (h_T 0) (h_C 0) (h_d 0) (h_F 0) (h_r 0) (h_n 0) p1024_t, nX8 cI cZ cQ h_w w_w, nX8 cI cZ cQ h_b p1024_b, nX8 cI cZ cQ h_l w_l, nX2 cI cZ cQ h_H (hkf h_k0 h_k1 h_k2 h_k3 h_k4 h_k5 h_k6 h_k7) w_H, nX8 cI cZ cQ h_k0 w_k0, nX8 cI cZ cQ h_k1 w_k1, nX8 cI cZ cQ h_k2 w_k2, nX8 cI cZ cQ h_k3 w_k3, nX8 cI cZ cQ h_k4 w_k4, nX8 cI cZ cQ h_k5 w_k5, nX8 cI cZ cQ h_k6 w_k6, nX8 cI cZ cQ h_k7 w_k7, nX7 cI cZ cQ h_x w_x, nX6 cI cZ cQ h_T (h_w 0) (h_L 0) (h_P 0) p1024_T, nX4 cI cZ cQ h_L (h_w 0) p1024_L, nX4 cI cZ cQ h_P (h_w 0) p1024_P, nX6 cI cZ cQ h_C (h_w 0) (h_M 0) (h_Q 0) w_C, nX4 cI cZ cQ h_M (h_w 0) w_M, nX4 cI cZ cQ h_Q (h_w 0) w_Q, nX0 cI cZ cQ h_d (h_w 0) (h_T 0) p1024_d, nX1 cI cZ cQ h_F (h_G 0) w_F, nX4 cI cZ cQ h_G (h_w 0) w_G, nX5 cI cZ cQ h_r (h_w 0) w_r, nX3 cI cZ cQ h_n (h_w 0) w_n, nX10 cI cZ cQ h_m p1043_m]) rfl dL_law_1043 ?_
  refine r_icmp_eq O 1049 rfl 1795 dL_law_1046 (by decide) (fun hc1046 => ?_) (fun hc1046 => ?_)
  · rw [if_pos hc1046] at hf
    exact lwB1795 O S E rec18 hrec18 _ _ _ _ _ _ _ _ _ _ _ _ _ _ _ _ _ _ _ _ _ _ _ _ _ _ _ hf
  · rw [if_neg hc1046] at hf
    refine r_ic O 1050 rfl 0 (by decide) dL_law_1049 ?_
    exact absurd (qe1 hf) (by decide)
set_option maxHeartbeats 40000000 in
set_option maxRecDepth 100000 in
theorem lwB627 {X : Cx} {cI cZ cQ : ClassId} {bS L : Nat} {xs : Nat → Int32} (O : OK X cL_law 8 RL wB room_1 cI cZ cQ) (S : SX X bS L xs) (E : ∀ {pc : Nat} {ws : List va_W} {lv : List (Nat × Value)}, decode cL_law pc = .ok (.ireturn, 1) → BK X 8 177 15831 pc ws lv [.int 1]) {h_t h_w h_b h_l h_H h_k0 h_k1 h_k2 h_k3 h_k4 h_k5 h_k6 h_k7 h_x h_T h_L h_P h_C h_M h_Q h_d h_F h_G h_r h_n h_m : Nat → Nat} (rec18 : Pk → Pk → Pk → Pk → Pk → Pk → Pk → Pk → Pk → Pk → Pk → Pk → Pk → Pk → Pk → Pk → Pk → Pk → Pk → Pk → Pk → Pk → Pk → Pk → Pk → Pk → Int32 → Option Int32) (hrec18 : ∀ (w_t : Pk) (w_w : Pk) (w_b : Pk) (w_l : Pk) (w_H : Pk) (w_k0 : Pk) (w_k1 : Pk) (w_k2 : Pk) (w_k3 : Pk) (w_k4 : Pk) (w_k5 : Pk) (w_k6 : Pk) (w_k7 : Pk) (w_x : Pk) (w_T : Pk) (w_L : Pk) (w_P : Pk) (w_C : Pk) (w_M : Pk) (w_Q : Pk) (w_d : Pk) (w_F : Pk) (w_G : Pk) (w_r : Pk) (w_n : Pk) (w_m : Pk) (y3 : Int32), rec18 w_t w_w w_b w_l w_H w_k0 w_k1 w_k2 w_k3 w_k4 w_k5 w_k6 w_k7 w_x w_T w_L w_P w_C w_M w_Q w_d w_F w_G w_r w_n w_m y3 = some 1 → BK X 8 177 15831 18 ([nX9 cI cZ cQ h_t (h_w 0) (h_b 0) (h_l 0) (h_H 0) (h_x 0) (h_T 0) (h_C 0) (h_d 0) (h_F 0) (h_r 0) (h_n 0) w_t, nX8 cI cZ cQ h_w w_w, nX8 cI cZ cQ h_b w_b, nX8 cI cZ cQ h_l w_l, nX2 cI cZ cQ h_H (hkf h_k0 h_k1 h_k2 h_k3 h_k4 h_k5 h_k6 h_k7) w_H, nX8 cI cZ cQ h_k0 w_k0, nX8 cI cZ cQ h_k1 w_k1, nX8 cI cZ cQ h_k2 w_k2, nX8 cI cZ cQ h_k3 w_k3, nX8 cI cZ cQ h_k4 w_k4, nX8 cI cZ cQ h_k5 w_k5, nX8 cI cZ cQ h_k6 w_k6, nX8 cI cZ cQ h_k7 w_k7, nX7 cI cZ cQ h_x w_x, nX6 cI cZ cQ h_T (h_w 0) (h_L 0) (h_P 0) w_T, nX4 cI cZ cQ h_L (h_w 0) w_L, nX4 cI cZ cQ h_P (h_w 0) w_P, nX6 cI cZ cQ h_C (h_w 0) (h_M 0) (h_Q 0) w_C, nX4 cI cZ cQ h_M (h_w 0) w_M, nX4 cI cZ cQ h_Q (h_w 0) w_Q, nX0 cI cZ cQ h_d (h_w 0) (h_T 0) w_d, nX1 cI cZ cQ h_F (h_G 0) w_F, nX4 cI cZ cQ h_G (h_w 0) w_G, nX5 cI cZ cQ h_r (h_w 0) w_r, nX3 cI cZ cQ h_n (h_w 0) w_n, nX10 cI cZ cQ h_m w_m]) [(0, .ref bS), (1, .ref (h_t 0)), (2, .ref (h_m 0)), (3, .int y3)] []) : ∀ (w_t : Pk) (w_w : Pk) (w_b : Pk) (w_l : Pk) (w_H : Pk) (w_k0 : Pk) (w_k1 : Pk) (w_k2 : Pk) (w_k3 : Pk) (w_k4 : Pk) (w_k5 : Pk) (w_k6 : Pk) (w_k7 : Pk) (w_x : Pk) (w_T : Pk) (w_L : Pk) (w_P : Pk) (w_C : Pk) (w_M : Pk) (w_Q : Pk) (w_d : Pk) (w_F : Pk) (w_G : Pk) (w_r : Pk) (w_n : Pk) (w_m : Pk) (y3 : Int32), fL_b627 L xs rec18 w_t w_w w_b w_l w_H w_k0 w_k1 w_k2 w_k3 w_k4 w_k5 w_k6 w_k7 w_x w_T w_L w_P w_C w_M w_Q w_d w_F w_G w_r w_n w_m y3 = some 1 → BK X 8 177 15831 627 ([nX9 cI cZ cQ h_t (h_w 0) (h_b 0) (h_l 0) (h_H 0) (h_x 0) (h_T 0) (h_C 0) (h_d 0) (h_F 0) (h_r 0) (h_n 0) w_t, nX8 cI cZ cQ h_w w_w, nX8 cI cZ cQ h_b w_b, nX8 cI cZ cQ h_l w_l, nX2 cI cZ cQ h_H (hkf h_k0 h_k1 h_k2 h_k3 h_k4 h_k5 h_k6 h_k7) w_H, nX8 cI cZ cQ h_k0 w_k0, nX8 cI cZ cQ h_k1 w_k1, nX8 cI cZ cQ h_k2 w_k2, nX8 cI cZ cQ h_k3 w_k3, nX8 cI cZ cQ h_k4 w_k4, nX8 cI cZ cQ h_k5 w_k5, nX8 cI cZ cQ h_k6 w_k6, nX8 cI cZ cQ h_k7 w_k7, nX7 cI cZ cQ h_x w_x, nX6 cI cZ cQ h_T (h_w 0) (h_L 0) (h_P 0) w_T, nX4 cI cZ cQ h_L (h_w 0) w_L, nX4 cI cZ cQ h_P (h_w 0) w_P, nX6 cI cZ cQ h_C (h_w 0) (h_M 0) (h_Q 0) w_C, nX4 cI cZ cQ h_M (h_w 0) w_M, nX4 cI cZ cQ h_Q (h_w 0) w_Q, nX0 cI cZ cQ h_d (h_w 0) (h_T 0) w_d, nX1 cI cZ cQ h_F (h_G 0) w_F, nX4 cI cZ cQ h_G (h_w 0) w_G, nX5 cI cZ cQ h_r (h_w 0) w_r, nX3 cI cZ cQ h_n (h_w 0) w_n, nX10 cI cZ cQ h_m w_m]) [(0, .ref bS), (1, .ref (h_t 0)), (2, .ref (h_m 0)), (3, .int y3)] [] := by
  intro w_t w_w w_b w_l w_H w_k0 w_k1 w_k2 w_k3 w_k4 w_k5 w_k6 w_k7 w_x w_T w_L w_P w_C w_M w_Q w_d w_F w_G w_r w_n w_m y3 hf
  unfold fL_b627 at hf
  refine r_ald_n O 628 rfl 1 rfl dL_law_627 ?_
  obtain ⟨x628, hq628, hf⟩ := qb1_some hf
  refine k_VI O 631 rfl (zX9_faultKind (l := xl X) (D := xD X) (cI := cI) (cZ := cZ) (cQ := cQ) (h_t := h_t) (r_w := (h_w 0)) (r_b := (h_b 0)) (r_l := (h_l 0)) (r_H := (h_H 0)) (h_x := h_x) (r_T := (h_T 0)) (r_C := (h_C 0)) (r_d := (h_d 0)) (r_F := (h_F 0)) (r_r := (h_r 0)) (r_n := (h_n 0)) hq628) (gV mlL_78 mvX9_faultKind izX9) rfl rfl rfl hdX9_faultKind ⟨Nat.le_of_ble_eq_true rfl, Nat.le_of_ble_eq_true rfl⟩ rfl 0 rfl rfl rfl rfl (Nat.le_of_ble_eq_true rfl) ⟨Nat.le_of_ble_eq_true rfl, Nat.le_of_ble_eq_true rfl⟩ [0, 13] rfl rfl rfl ([nX9 cI cZ cQ h_t (h_w 0) (h_b 0) (h_l 0) (h_H 0) (h_x 0) (h_T 0) (h_C 0) (h_d 0) (h_F 0) (h_r 0) (h_n 0) w_t, nX8 cI cZ cQ h_w w_w, nX8 cI cZ cQ h_b w_b, nX8 cI cZ cQ h_l w_l, nX2 cI cZ cQ h_H (hkf h_k0 h_k1 h_k2 h_k3 h_k4 h_k5 h_k6 h_k7) w_H, nX8 cI cZ cQ h_k0 w_k0, nX8 cI cZ cQ h_k1 w_k1, nX8 cI cZ cQ h_k2 w_k2, nX8 cI cZ cQ h_k3 w_k3, nX8 cI cZ cQ h_k4 w_k4, nX8 cI cZ cQ h_k5 w_k5, nX8 cI cZ cQ h_k6 w_k6, nX8 cI cZ cQ h_k7 w_k7, nX7 cI cZ cQ h_x w_x, nX6 cI cZ cQ h_T (h_w 0) (h_L 0) (h_P 0) w_T, nX4 cI cZ cQ h_L (h_w 0) w_L, nX4 cI cZ cQ h_P (h_w 0) w_P, nX6 cI cZ cQ h_C (h_w 0) (h_M 0) (h_Q 0) w_C, nX4 cI cZ cQ h_M (h_w 0) w_M, nX4 cI cZ cQ h_Q (h_w 0) w_Q, nX0 cI cZ cQ h_d (h_w 0) (h_T 0) w_d, nX1 cI cZ cQ h_F (h_G 0) w_F, nX4 cI cZ cQ h_G (h_w 0) w_G, nX5 cI cZ cQ h_r (h_w 0) w_r, nX3 cI cZ cQ h_n (h_w 0) w_n, nX10 cI cZ cQ h_m w_m]) rfl dL_law_628 ?_
  refine r_ald_n O 632 rfl 2 rfl dL_law_631 ?_
  obtain ⟨x632, hq632, hf⟩ := qb1_some hf
  refine k_VI O 635 rfl (zX10_faultKind (l := xl X) (D := xD X) (cI := cI) (cZ := cZ) (cQ := cQ) (h_t := h_m) hq632) (gV mlL_81 mvX10_faultKind izX10) rfl rfl rfl hdX10_faultKind ⟨Nat.le_of_ble_eq_true rfl, Nat.le_of_ble_eq_true rfl⟩ rfl 25 rfl rfl rfl rfl (Nat.le_of_ble_eq_true rfl) ⟨Nat.le_of_ble_eq_true rfl, Nat.le_of_ble_eq_true rfl⟩ [25] rfl rfl rfl ([nX9 cI cZ cQ h_t (h_w 0) (h_b 0) (h_l 0) (h_H 0) (h_x 0) (h_T 0) (h_C 0) (h_d 0) (h_F 0) (h_r 0) (h_n 0) w_t, nX8 cI cZ cQ h_w w_w, nX8 cI cZ cQ h_b w_b, nX8 cI cZ cQ h_l w_l, nX2 cI cZ cQ h_H (hkf h_k0 h_k1 h_k2 h_k3 h_k4 h_k5 h_k6 h_k7) w_H, nX8 cI cZ cQ h_k0 w_k0, nX8 cI cZ cQ h_k1 w_k1, nX8 cI cZ cQ h_k2 w_k2, nX8 cI cZ cQ h_k3 w_k3, nX8 cI cZ cQ h_k4 w_k4, nX8 cI cZ cQ h_k5 w_k5, nX8 cI cZ cQ h_k6 w_k6, nX8 cI cZ cQ h_k7 w_k7, nX7 cI cZ cQ h_x w_x, nX6 cI cZ cQ h_T (h_w 0) (h_L 0) (h_P 0) w_T, nX4 cI cZ cQ h_L (h_w 0) w_L, nX4 cI cZ cQ h_P (h_w 0) w_P, nX6 cI cZ cQ h_C (h_w 0) (h_M 0) (h_Q 0) w_C, nX4 cI cZ cQ h_M (h_w 0) w_M, nX4 cI cZ cQ h_Q (h_w 0) w_Q, nX0 cI cZ cQ h_d (h_w 0) (h_T 0) w_d, nX1 cI cZ cQ h_F (h_G 0) w_F, nX4 cI cZ cQ h_G (h_w 0) w_G, nX5 cI cZ cQ h_r (h_w 0) w_r, nX3 cI cZ cQ h_n (h_w 0) w_n, nX10 cI cZ cQ h_m w_m]) rfl dL_law_632 ?_
  refine r_icmp_eq O 638 rfl 1795 dL_law_635 (by decide) (fun hc635 => ?_) (fun hc635 => ?_)
  · rw [if_pos hc635] at hf
    exact lwB1795 O S E rec18 hrec18 _ _ _ _ _ _ _ _ _ _ _ _ _ _ _ _ _ _ _ _ _ _ _ _ _ _ _ hf
  · rw [if_neg hc635] at hf
    refine r_ic O 639 rfl 0 (by decide) dL_law_638 ?_
    exact absurd (qe1 hf) (by decide)
set_option maxHeartbeats 40000000 in
set_option maxRecDepth 100000 in
theorem lwB758 {X : Cx} {cI cZ cQ : ClassId} {bS L : Nat} {xs : Nat → Int32} (O : OK X cL_law 8 RL wB room_1 cI cZ cQ) (S : SX X bS L xs) (E : ∀ {pc : Nat} {ws : List va_W} {lv : List (Nat × Value)}, decode cL_law pc = .ok (.ireturn, 1) → BK X 8 177 15831 pc ws lv [.int 1]) {h_t h_w h_b h_l h_H h_k0 h_k1 h_k2 h_k3 h_k4 h_k5 h_k6 h_k7 h_x h_T h_L h_P h_C h_M h_Q h_d h_F h_G h_r h_n h_m : Nat → Nat} (rec18 : Pk → Pk → Pk → Pk → Pk → Pk → Pk → Pk → Pk → Pk → Pk → Pk → Pk → Pk → Pk → Pk → Pk → Pk → Pk → Pk → Pk → Pk → Pk → Pk → Pk → Pk → Int32 → Option Int32) (hrec18 : ∀ (w_t : Pk) (w_w : Pk) (w_b : Pk) (w_l : Pk) (w_H : Pk) (w_k0 : Pk) (w_k1 : Pk) (w_k2 : Pk) (w_k3 : Pk) (w_k4 : Pk) (w_k5 : Pk) (w_k6 : Pk) (w_k7 : Pk) (w_x : Pk) (w_T : Pk) (w_L : Pk) (w_P : Pk) (w_C : Pk) (w_M : Pk) (w_Q : Pk) (w_d : Pk) (w_F : Pk) (w_G : Pk) (w_r : Pk) (w_n : Pk) (w_m : Pk) (y3 : Int32), rec18 w_t w_w w_b w_l w_H w_k0 w_k1 w_k2 w_k3 w_k4 w_k5 w_k6 w_k7 w_x w_T w_L w_P w_C w_M w_Q w_d w_F w_G w_r w_n w_m y3 = some 1 → BK X 8 177 15831 18 ([nX9 cI cZ cQ h_t (h_w 0) (h_b 0) (h_l 0) (h_H 0) (h_x 0) (h_T 0) (h_C 0) (h_d 0) (h_F 0) (h_r 0) (h_n 0) w_t, nX8 cI cZ cQ h_w w_w, nX8 cI cZ cQ h_b w_b, nX8 cI cZ cQ h_l w_l, nX2 cI cZ cQ h_H (hkf h_k0 h_k1 h_k2 h_k3 h_k4 h_k5 h_k6 h_k7) w_H, nX8 cI cZ cQ h_k0 w_k0, nX8 cI cZ cQ h_k1 w_k1, nX8 cI cZ cQ h_k2 w_k2, nX8 cI cZ cQ h_k3 w_k3, nX8 cI cZ cQ h_k4 w_k4, nX8 cI cZ cQ h_k5 w_k5, nX8 cI cZ cQ h_k6 w_k6, nX8 cI cZ cQ h_k7 w_k7, nX7 cI cZ cQ h_x w_x, nX6 cI cZ cQ h_T (h_w 0) (h_L 0) (h_P 0) w_T, nX4 cI cZ cQ h_L (h_w 0) w_L, nX4 cI cZ cQ h_P (h_w 0) w_P, nX6 cI cZ cQ h_C (h_w 0) (h_M 0) (h_Q 0) w_C, nX4 cI cZ cQ h_M (h_w 0) w_M, nX4 cI cZ cQ h_Q (h_w 0) w_Q, nX0 cI cZ cQ h_d (h_w 0) (h_T 0) w_d, nX1 cI cZ cQ h_F (h_G 0) w_F, nX4 cI cZ cQ h_G (h_w 0) w_G, nX5 cI cZ cQ h_r (h_w 0) w_r, nX3 cI cZ cQ h_n (h_w 0) w_n, nX10 cI cZ cQ h_m w_m]) [(0, .ref bS), (1, .ref (h_t 0)), (2, .ref (h_m 0)), (3, .int y3)] []) : ∀ (w_t : Pk) (w_w : Pk) (w_b : Pk) (w_l : Pk) (w_H : Pk) (w_k0 : Pk) (w_k1 : Pk) (w_k2 : Pk) (w_k3 : Pk) (w_k4 : Pk) (w_k5 : Pk) (w_k6 : Pk) (w_k7 : Pk) (w_x : Pk) (w_T : Pk) (w_L : Pk) (w_P : Pk) (w_C : Pk) (w_M : Pk) (w_Q : Pk) (w_d : Pk) (w_F : Pk) (w_G : Pk) (w_r : Pk) (w_n : Pk) (w_m : Pk) (y3 : Int32), fL_b758 L xs rec18 w_t w_w w_b w_l w_H w_k0 w_k1 w_k2 w_k3 w_k4 w_k5 w_k6 w_k7 w_x w_T w_L w_P w_C w_M w_Q w_d w_F w_G w_r w_n w_m y3 = some 1 → BK X 8 177 15831 758 ([nX9 cI cZ cQ h_t (h_w 0) (h_b 0) (h_l 0) (h_H 0) (h_x 0) (h_T 0) (h_C 0) (h_d 0) (h_F 0) (h_r 0) (h_n 0) w_t, nX8 cI cZ cQ h_w w_w, nX8 cI cZ cQ h_b w_b, nX8 cI cZ cQ h_l w_l, nX2 cI cZ cQ h_H (hkf h_k0 h_k1 h_k2 h_k3 h_k4 h_k5 h_k6 h_k7) w_H, nX8 cI cZ cQ h_k0 w_k0, nX8 cI cZ cQ h_k1 w_k1, nX8 cI cZ cQ h_k2 w_k2, nX8 cI cZ cQ h_k3 w_k3, nX8 cI cZ cQ h_k4 w_k4, nX8 cI cZ cQ h_k5 w_k5, nX8 cI cZ cQ h_k6 w_k6, nX8 cI cZ cQ h_k7 w_k7, nX7 cI cZ cQ h_x w_x, nX6 cI cZ cQ h_T (h_w 0) (h_L 0) (h_P 0) w_T, nX4 cI cZ cQ h_L (h_w 0) w_L, nX4 cI cZ cQ h_P (h_w 0) w_P, nX6 cI cZ cQ h_C (h_w 0) (h_M 0) (h_Q 0) w_C, nX4 cI cZ cQ h_M (h_w 0) w_M, nX4 cI cZ cQ h_Q (h_w 0) w_Q, nX0 cI cZ cQ h_d (h_w 0) (h_T 0) w_d, nX1 cI cZ cQ h_F (h_G 0) w_F, nX4 cI cZ cQ h_G (h_w 0) w_G, nX5 cI cZ cQ h_r (h_w 0) w_r, nX3 cI cZ cQ h_n (h_w 0) w_n, nX10 cI cZ cQ h_m w_m]) [(0, .ref bS), (1, .ref (h_t 0)), (2, .ref (h_m 0)), (3, .int y3)] [] := by
  intro w_t w_w w_b w_l w_H w_k0 w_k1 w_k2 w_k3 w_k4 w_k5 w_k6 w_k7 w_x w_T w_L w_P w_C w_M w_Q w_d w_F w_G w_r w_n w_m y3 hf
  unfold fL_b758 at hf
  refine r_ald_n O 759 rfl 1 rfl dL_law_758 ?_
  refine r_ald_n O 760 rfl 0 rfl dL_law_759 ?_
  refine r_ild_n O 761 rfl 3 rfl dL_law_760 ?_
  refine r_ic O 762 rfl 1 (by decide) dL_law_761 ?_
  refine r_iadd O 763 rfl dL_law_762 ?_
  obtain ⟨x763, ex763, hin763, hf⟩ := qld_some hf
  refine r_sld O S 764 rfl hin763 dL_law_763 ?_
  rw [← ex763]
  obtain ⟨x764, p764_t, p764_b, p764_T, p764_L, p764_P, hq764, hf⟩ := qb6_some hf
  refine k_VI O 767 rfl (zX9_pieceWall (l := xl X) (D := xD X) (cI := cI) (cZ := cZ) (cQ := cQ) (h_t := h_t) (h_w := h_w) (h_b := h_b) (r_l := (h_l 0)) (r_H := (h_H 0)) (r_x := (h_x 0)) (h_T := h_T) (h_L := h_L) (h_P := h_P) (r_C := (h_C 0)) (r_d := (h_d 0)) (r_F := (h_F 0)) (r_r := (h_r 0)) (r_n := (h_n 0)) hq764) (gV mlL_106 mvX9_pieceWall izX9) rfl rfl rfl hdX9_pieceWall ⟨Nat.le_of_ble_eq_true rfl, Nat.le_of_ble_eq_true rfl⟩ rfl 0 rfl rfl rfl rfl (Nat.le_of_ble_eq_true rfl) ⟨Nat.le_of_ble_eq_true rfl, Nat.le_of_ble_eq_true rfl⟩ [0, 1, 2, 14, 15, 16] rfl rfl rfl ([nX9 cI cZ cQ h_t (h_w 0) (h_b 0) (h_l 0) (h_H 0) (h_x 0) (h_T 0) (h_C 0) (h_d 0) (h_F 0) (h_r 0) (h_n 0) p764_t, nX8 cI cZ cQ h_w w_w, nX8 cI cZ cQ h_b p764_b, nX8 cI cZ cQ h_l w_l, nX2 cI cZ cQ h_H (hkf h_k0 h_k1 h_k2 h_k3 h_k4 h_k5 h_k6 h_k7) w_H, nX8 cI cZ cQ h_k0 w_k0, nX8 cI cZ cQ h_k1 w_k1, nX8 cI cZ cQ h_k2 w_k2, nX8 cI cZ cQ h_k3 w_k3, nX8 cI cZ cQ h_k4 w_k4, nX8 cI cZ cQ h_k5 w_k5, nX8 cI cZ cQ h_k6 w_k6, nX8 cI cZ cQ h_k7 w_k7, nX7 cI cZ cQ h_x w_x, nX6 cI cZ cQ h_T (h_w 0) (h_L 0) (h_P 0) p764_T, nX4 cI cZ cQ h_L (h_w 0) p764_L, nX4 cI cZ cQ h_P (h_w 0) p764_P, nX6 cI cZ cQ h_C (h_w 0) (h_M 0) (h_Q 0) w_C, nX4 cI cZ cQ h_M (h_w 0) w_M, nX4 cI cZ cQ h_Q (h_w 0) w_Q, nX0 cI cZ cQ h_d (h_w 0) (h_T 0) w_d, nX1 cI cZ cQ h_F (h_G 0) w_F, nX4 cI cZ cQ h_G (h_w 0) w_G, nX5 cI cZ cQ h_r (h_w 0) w_r, nX3 cI cZ cQ h_n (h_w 0) w_n, nX10 cI cZ cQ h_m w_m]) rfl dL_law_764 ?_
  refine r_ald_n O 768 rfl 2 rfl dL_law_767 ?_
  refine r_ald_n O 769 rfl 0 rfl dL_law_768 ?_
  refine r_ild_n O 770 rfl 3 rfl dL_law_769 ?_
  refine r_ic O 771 rfl 1 (by decide) dL_law_770 ?_
  refine r_iadd O 772 rfl dL_law_771 ?_
  obtain ⟨x772, ex772, hin772, hf⟩ := qld_some hf
  refine r_sld O S 773 rfl hin772 dL_law_772 ?_
  rw [← ex772]
  obtain ⟨x773, p773_m, hq773, hf⟩ := qb2_some hf
  refine k_VI O 776 rfl (zX10_pieceWall (l := xl X) (D := xD X) (cI := cI) (cZ := cZ) (cQ := cQ) (h_t := h_m) hq773) (gV mlL_109 mvX10_pieceWall izX10) rfl rfl rfl hdX10_pieceWall ⟨Nat.le_of_ble_eq_true rfl, Nat.le_of_ble_eq_true rfl⟩ rfl 25 rfl rfl rfl rfl (Nat.le_of_ble_eq_true rfl) ⟨Nat.le_of_ble_eq_true rfl, Nat.le_of_ble_eq_true rfl⟩ [25] rfl rfl rfl ([nX9 cI cZ cQ h_t (h_w 0) (h_b 0) (h_l 0) (h_H 0) (h_x 0) (h_T 0) (h_C 0) (h_d 0) (h_F 0) (h_r 0) (h_n 0) p764_t, nX8 cI cZ cQ h_w w_w, nX8 cI cZ cQ h_b p764_b, nX8 cI cZ cQ h_l w_l, nX2 cI cZ cQ h_H (hkf h_k0 h_k1 h_k2 h_k3 h_k4 h_k5 h_k6 h_k7) w_H, nX8 cI cZ cQ h_k0 w_k0, nX8 cI cZ cQ h_k1 w_k1, nX8 cI cZ cQ h_k2 w_k2, nX8 cI cZ cQ h_k3 w_k3, nX8 cI cZ cQ h_k4 w_k4, nX8 cI cZ cQ h_k5 w_k5, nX8 cI cZ cQ h_k6 w_k6, nX8 cI cZ cQ h_k7 w_k7, nX7 cI cZ cQ h_x w_x, nX6 cI cZ cQ h_T (h_w 0) (h_L 0) (h_P 0) p764_T, nX4 cI cZ cQ h_L (h_w 0) p764_L, nX4 cI cZ cQ h_P (h_w 0) p764_P, nX6 cI cZ cQ h_C (h_w 0) (h_M 0) (h_Q 0) w_C, nX4 cI cZ cQ h_M (h_w 0) w_M, nX4 cI cZ cQ h_Q (h_w 0) w_Q, nX0 cI cZ cQ h_d (h_w 0) (h_T 0) w_d, nX1 cI cZ cQ h_F (h_G 0) w_F, nX4 cI cZ cQ h_G (h_w 0) w_G, nX5 cI cZ cQ h_r (h_w 0) w_r, nX3 cI cZ cQ h_n (h_w 0) w_n, nX10 cI cZ cQ h_m p773_m]) rfl dL_law_773 ?_
  refine r_icmp_eq O 779 rfl 1795 dL_law_776 (by decide) (fun hc776 => ?_) (fun hc776 => ?_)
  · rw [if_pos hc776] at hf
    exact lwB1795 O S E rec18 hrec18 _ _ _ _ _ _ _ _ _ _ _ _ _ _ _ _ _ _ _ _ _ _ _ _ _ _ _ hf
  · rw [if_neg hc776] at hf
    refine r_ic O 780 rfl 0 (by decide) dL_law_779 ?_
    exact absurd (qe1 hf) (by decide)
set_option maxHeartbeats 40000000 in
set_option maxRecDepth 100000 in
theorem lwB1782 {X : Cx} {cI cZ cQ : ClassId} {bS L : Nat} {xs : Nat → Int32} (O : OK X cL_law 8 RL wB room_1 cI cZ cQ) (S : SX X bS L xs) (E : ∀ {pc : Nat} {ws : List va_W} {lv : List (Nat × Value)}, decode cL_law pc = .ok (.ireturn, 1) → BK X 8 177 15831 pc ws lv [.int 1]) {h_t h_w h_b h_l h_H h_k0 h_k1 h_k2 h_k3 h_k4 h_k5 h_k6 h_k7 h_x h_T h_L h_P h_C h_M h_Q h_d h_F h_G h_r h_n h_m : Nat → Nat} (rec18 : Pk → Pk → Pk → Pk → Pk → Pk → Pk → Pk → Pk → Pk → Pk → Pk → Pk → Pk → Pk → Pk → Pk → Pk → Pk → Pk → Pk → Pk → Pk → Pk → Pk → Pk → Int32 → Option Int32) (hrec18 : ∀ (w_t : Pk) (w_w : Pk) (w_b : Pk) (w_l : Pk) (w_H : Pk) (w_k0 : Pk) (w_k1 : Pk) (w_k2 : Pk) (w_k3 : Pk) (w_k4 : Pk) (w_k5 : Pk) (w_k6 : Pk) (w_k7 : Pk) (w_x : Pk) (w_T : Pk) (w_L : Pk) (w_P : Pk) (w_C : Pk) (w_M : Pk) (w_Q : Pk) (w_d : Pk) (w_F : Pk) (w_G : Pk) (w_r : Pk) (w_n : Pk) (w_m : Pk) (y3 : Int32), rec18 w_t w_w w_b w_l w_H w_k0 w_k1 w_k2 w_k3 w_k4 w_k5 w_k6 w_k7 w_x w_T w_L w_P w_C w_M w_Q w_d w_F w_G w_r w_n w_m y3 = some 1 → BK X 8 177 15831 18 ([nX9 cI cZ cQ h_t (h_w 0) (h_b 0) (h_l 0) (h_H 0) (h_x 0) (h_T 0) (h_C 0) (h_d 0) (h_F 0) (h_r 0) (h_n 0) w_t, nX8 cI cZ cQ h_w w_w, nX8 cI cZ cQ h_b w_b, nX8 cI cZ cQ h_l w_l, nX2 cI cZ cQ h_H (hkf h_k0 h_k1 h_k2 h_k3 h_k4 h_k5 h_k6 h_k7) w_H, nX8 cI cZ cQ h_k0 w_k0, nX8 cI cZ cQ h_k1 w_k1, nX8 cI cZ cQ h_k2 w_k2, nX8 cI cZ cQ h_k3 w_k3, nX8 cI cZ cQ h_k4 w_k4, nX8 cI cZ cQ h_k5 w_k5, nX8 cI cZ cQ h_k6 w_k6, nX8 cI cZ cQ h_k7 w_k7, nX7 cI cZ cQ h_x w_x, nX6 cI cZ cQ h_T (h_w 0) (h_L 0) (h_P 0) w_T, nX4 cI cZ cQ h_L (h_w 0) w_L, nX4 cI cZ cQ h_P (h_w 0) w_P, nX6 cI cZ cQ h_C (h_w 0) (h_M 0) (h_Q 0) w_C, nX4 cI cZ cQ h_M (h_w 0) w_M, nX4 cI cZ cQ h_Q (h_w 0) w_Q, nX0 cI cZ cQ h_d (h_w 0) (h_T 0) w_d, nX1 cI cZ cQ h_F (h_G 0) w_F, nX4 cI cZ cQ h_G (h_w 0) w_G, nX5 cI cZ cQ h_r (h_w 0) w_r, nX3 cI cZ cQ h_n (h_w 0) w_n, nX10 cI cZ cQ h_m w_m]) [(0, .ref bS), (1, .ref (h_t 0)), (2, .ref (h_m 0)), (3, .int y3)] []) : ∀ (w_t : Pk) (w_w : Pk) (w_b : Pk) (w_l : Pk) (w_H : Pk) (w_k0 : Pk) (w_k1 : Pk) (w_k2 : Pk) (w_k3 : Pk) (w_k4 : Pk) (w_k5 : Pk) (w_k6 : Pk) (w_k7 : Pk) (w_x : Pk) (w_T : Pk) (w_L : Pk) (w_P : Pk) (w_C : Pk) (w_M : Pk) (w_Q : Pk) (w_d : Pk) (w_F : Pk) (w_G : Pk) (w_r : Pk) (w_n : Pk) (w_m : Pk) (y3 : Int32), fL_b1782 L xs rec18 w_t w_w w_b w_l w_H w_k0 w_k1 w_k2 w_k3 w_k4 w_k5 w_k6 w_k7 w_x w_T w_L w_P w_C w_M w_Q w_d w_F w_G w_r w_n w_m y3 = some 1 → BK X 8 177 15831 1782 ([nX9 cI cZ cQ h_t (h_w 0) (h_b 0) (h_l 0) (h_H 0) (h_x 0) (h_T 0) (h_C 0) (h_d 0) (h_F 0) (h_r 0) (h_n 0) w_t, nX8 cI cZ cQ h_w w_w, nX8 cI cZ cQ h_b w_b, nX8 cI cZ cQ h_l w_l, nX2 cI cZ cQ h_H (hkf h_k0 h_k1 h_k2 h_k3 h_k4 h_k5 h_k6 h_k7) w_H, nX8 cI cZ cQ h_k0 w_k0, nX8 cI cZ cQ h_k1 w_k1, nX8 cI cZ cQ h_k2 w_k2, nX8 cI cZ cQ h_k3 w_k3, nX8 cI cZ cQ h_k4 w_k4, nX8 cI cZ cQ h_k5 w_k5, nX8 cI cZ cQ h_k6 w_k6, nX8 cI cZ cQ h_k7 w_k7, nX7 cI cZ cQ h_x w_x, nX6 cI cZ cQ h_T (h_w 0) (h_L 0) (h_P 0) w_T, nX4 cI cZ cQ h_L (h_w 0) w_L, nX4 cI cZ cQ h_P (h_w 0) w_P, nX6 cI cZ cQ h_C (h_w 0) (h_M 0) (h_Q 0) w_C, nX4 cI cZ cQ h_M (h_w 0) w_M, nX4 cI cZ cQ h_Q (h_w 0) w_Q, nX0 cI cZ cQ h_d (h_w 0) (h_T 0) w_d, nX1 cI cZ cQ h_F (h_G 0) w_F, nX4 cI cZ cQ h_G (h_w 0) w_G, nX5 cI cZ cQ h_r (h_w 0) w_r, nX3 cI cZ cQ h_n (h_w 0) w_n, nX10 cI cZ cQ h_m w_m]) [(0, .ref bS), (1, .ref (h_t 0)), (2, .ref (h_m 0)), (3, .int y3)] [] := by
  intro w_t w_w w_b w_l w_H w_k0 w_k1 w_k2 w_k3 w_k4 w_k5 w_k6 w_k7 w_x w_T w_L w_P w_C w_M w_Q w_d w_F w_G w_r w_n w_m y3 hf
  unfold fL_b1782 at hf
  refine r_ald_n O 1783 rfl 1 rfl dL_law_1782 ?_
  obtain ⟨x1783, p1783_F, p1783_G, hq1783, hf⟩ := qb3_some hf
  refine k_VI O 1786 rfl (zX9_bestRoot (l := xl X) (D := xD X) (cI := cI) (cZ := cZ) (cQ := cQ) (h_t := h_t) (h_w := h_w) (r_b := (h_b 0)) (r_l := (h_l 0)) (r_H := (h_H 0)) (r_x := (h_x 0)) (r_T := (h_T 0)) (r_C := (h_C 0)) (r_d := (h_d 0)) (h_F := h_F) (h_G := h_G) (r_r := (h_r 0)) (r_n := (h_n 0)) hq1783) (gV mlL_211 mvX9_bestRoot izX9) rfl rfl rfl hdX9_bestRoot ⟨Nat.le_of_ble_eq_true rfl, Nat.le_of_ble_eq_true rfl⟩ rfl 0 rfl rfl rfl rfl (Nat.le_of_ble_eq_true rfl) ⟨Nat.le_of_ble_eq_true rfl, Nat.le_of_ble_eq_true rfl⟩ [0, 1, 21, 22] rfl rfl rfl ([nX9 cI cZ cQ h_t (h_w 0) (h_b 0) (h_l 0) (h_H 0) (h_x 0) (h_T 0) (h_C 0) (h_d 0) (h_F 0) (h_r 0) (h_n 0) w_t, nX8 cI cZ cQ h_w w_w, nX8 cI cZ cQ h_b w_b, nX8 cI cZ cQ h_l w_l, nX2 cI cZ cQ h_H (hkf h_k0 h_k1 h_k2 h_k3 h_k4 h_k5 h_k6 h_k7) w_H, nX8 cI cZ cQ h_k0 w_k0, nX8 cI cZ cQ h_k1 w_k1, nX8 cI cZ cQ h_k2 w_k2, nX8 cI cZ cQ h_k3 w_k3, nX8 cI cZ cQ h_k4 w_k4, nX8 cI cZ cQ h_k5 w_k5, nX8 cI cZ cQ h_k6 w_k6, nX8 cI cZ cQ h_k7 w_k7, nX7 cI cZ cQ h_x w_x, nX6 cI cZ cQ h_T (h_w 0) (h_L 0) (h_P 0) w_T, nX4 cI cZ cQ h_L (h_w 0) w_L, nX4 cI cZ cQ h_P (h_w 0) w_P, nX6 cI cZ cQ h_C (h_w 0) (h_M 0) (h_Q 0) w_C, nX4 cI cZ cQ h_M (h_w 0) w_M, nX4 cI cZ cQ h_Q (h_w 0) w_Q, nX0 cI cZ cQ h_d (h_w 0) (h_T 0) w_d, nX1 cI cZ cQ h_F (h_G 0) p1783_F, nX4 cI cZ cQ h_G (h_w 0) p1783_G, nX5 cI cZ cQ h_r (h_w 0) w_r, nX3 cI cZ cQ h_n (h_w 0) w_n, nX10 cI cZ cQ h_m w_m]) rfl dL_law_1783 ?_
  refine r_ald_n O 1787 rfl 2 rfl dL_law_1786 ?_
  obtain ⟨x1787, p1787_m, hq1787, hf⟩ := qb2_some hf
  refine k_VI O 1790 rfl (zX10_bestRoot (l := xl X) (D := xD X) (cI := cI) (cZ := cZ) (cQ := cQ) (h_t := h_m) hq1787) (gV mlL_214 mvX10_bestRoot izX10) rfl rfl rfl hdX10_bestRoot ⟨Nat.le_of_ble_eq_true rfl, Nat.le_of_ble_eq_true rfl⟩ rfl 25 rfl rfl rfl rfl (Nat.le_of_ble_eq_true rfl) ⟨Nat.le_of_ble_eq_true rfl, Nat.le_of_ble_eq_true rfl⟩ [25] rfl rfl rfl ([nX9 cI cZ cQ h_t (h_w 0) (h_b 0) (h_l 0) (h_H 0) (h_x 0) (h_T 0) (h_C 0) (h_d 0) (h_F 0) (h_r 0) (h_n 0) w_t, nX8 cI cZ cQ h_w w_w, nX8 cI cZ cQ h_b w_b, nX8 cI cZ cQ h_l w_l, nX2 cI cZ cQ h_H (hkf h_k0 h_k1 h_k2 h_k3 h_k4 h_k5 h_k6 h_k7) w_H, nX8 cI cZ cQ h_k0 w_k0, nX8 cI cZ cQ h_k1 w_k1, nX8 cI cZ cQ h_k2 w_k2, nX8 cI cZ cQ h_k3 w_k3, nX8 cI cZ cQ h_k4 w_k4, nX8 cI cZ cQ h_k5 w_k5, nX8 cI cZ cQ h_k6 w_k6, nX8 cI cZ cQ h_k7 w_k7, nX7 cI cZ cQ h_x w_x, nX6 cI cZ cQ h_T (h_w 0) (h_L 0) (h_P 0) w_T, nX4 cI cZ cQ h_L (h_w 0) w_L, nX4 cI cZ cQ h_P (h_w 0) w_P, nX6 cI cZ cQ h_C (h_w 0) (h_M 0) (h_Q 0) w_C, nX4 cI cZ cQ h_M (h_w 0) w_M, nX4 cI cZ cQ h_Q (h_w 0) w_Q, nX0 cI cZ cQ h_d (h_w 0) (h_T 0) w_d, nX1 cI cZ cQ h_F (h_G 0) p1783_F, nX4 cI cZ cQ h_G (h_w 0) p1783_G, nX5 cI cZ cQ h_r (h_w 0) w_r, nX3 cI cZ cQ h_n (h_w 0) w_n, nX10 cI cZ cQ h_m p1787_m]) rfl dL_law_1787 ?_
  refine r_icmp_eq O 1793 rfl 1795 dL_law_1790 (by decide) (fun hc1790 => ?_) (fun hc1790 => ?_)
  · rw [if_pos hc1790] at hf
    exact lwB1795 O S E rec18 hrec18 _ _ _ _ _ _ _ _ _ _ _ _ _ _ _ _ _ _ _ _ _ _ _ _ _ _ _ hf
  · rw [if_neg hc1790] at hf
    refine r_ic O 1794 rfl 0 (by decide) dL_law_1793 ?_
    exact absurd (qe1 hf) (by decide)
set_option maxHeartbeats 40000000 in
set_option maxRecDepth 100000 in
theorem lwB888 {X : Cx} {cI cZ cQ : ClassId} {bS L : Nat} {xs : Nat → Int32} (O : OK X cL_law 8 RL wB room_1 cI cZ cQ) (S : SX X bS L xs) (E : ∀ {pc : Nat} {ws : List va_W} {lv : List (Nat × Value)}, decode cL_law pc = .ok (.ireturn, 1) → BK X 8 177 15831 pc ws lv [.int 1]) {h_t h_w h_b h_l h_H h_k0 h_k1 h_k2 h_k3 h_k4 h_k5 h_k6 h_k7 h_x h_T h_L h_P h_C h_M h_Q h_d h_F h_G h_r h_n h_m : Nat → Nat} (rec18 : Pk → Pk → Pk → Pk → Pk → Pk → Pk → Pk → Pk → Pk → Pk → Pk → Pk → Pk → Pk → Pk → Pk → Pk → Pk → Pk → Pk → Pk → Pk → Pk → Pk → Pk → Int32 → Option Int32) (hrec18 : ∀ (w_t : Pk) (w_w : Pk) (w_b : Pk) (w_l : Pk) (w_H : Pk) (w_k0 : Pk) (w_k1 : Pk) (w_k2 : Pk) (w_k3 : Pk) (w_k4 : Pk) (w_k5 : Pk) (w_k6 : Pk) (w_k7 : Pk) (w_x : Pk) (w_T : Pk) (w_L : Pk) (w_P : Pk) (w_C : Pk) (w_M : Pk) (w_Q : Pk) (w_d : Pk) (w_F : Pk) (w_G : Pk) (w_r : Pk) (w_n : Pk) (w_m : Pk) (y3 : Int32), rec18 w_t w_w w_b w_l w_H w_k0 w_k1 w_k2 w_k3 w_k4 w_k5 w_k6 w_k7 w_x w_T w_L w_P w_C w_M w_Q w_d w_F w_G w_r w_n w_m y3 = some 1 → BK X 8 177 15831 18 ([nX9 cI cZ cQ h_t (h_w 0) (h_b 0) (h_l 0) (h_H 0) (h_x 0) (h_T 0) (h_C 0) (h_d 0) (h_F 0) (h_r 0) (h_n 0) w_t, nX8 cI cZ cQ h_w w_w, nX8 cI cZ cQ h_b w_b, nX8 cI cZ cQ h_l w_l, nX2 cI cZ cQ h_H (hkf h_k0 h_k1 h_k2 h_k3 h_k4 h_k5 h_k6 h_k7) w_H, nX8 cI cZ cQ h_k0 w_k0, nX8 cI cZ cQ h_k1 w_k1, nX8 cI cZ cQ h_k2 w_k2, nX8 cI cZ cQ h_k3 w_k3, nX8 cI cZ cQ h_k4 w_k4, nX8 cI cZ cQ h_k5 w_k5, nX8 cI cZ cQ h_k6 w_k6, nX8 cI cZ cQ h_k7 w_k7, nX7 cI cZ cQ h_x w_x, nX6 cI cZ cQ h_T (h_w 0) (h_L 0) (h_P 0) w_T, nX4 cI cZ cQ h_L (h_w 0) w_L, nX4 cI cZ cQ h_P (h_w 0) w_P, nX6 cI cZ cQ h_C (h_w 0) (h_M 0) (h_Q 0) w_C, nX4 cI cZ cQ h_M (h_w 0) w_M, nX4 cI cZ cQ h_Q (h_w 0) w_Q, nX0 cI cZ cQ h_d (h_w 0) (h_T 0) w_d, nX1 cI cZ cQ h_F (h_G 0) w_F, nX4 cI cZ cQ h_G (h_w 0) w_G, nX5 cI cZ cQ h_r (h_w 0) w_r, nX3 cI cZ cQ h_n (h_w 0) w_n, nX10 cI cZ cQ h_m w_m]) [(0, .ref bS), (1, .ref (h_t 0)), (2, .ref (h_m 0)), (3, .int y3)] []) : ∀ (w_t : Pk) (w_w : Pk) (w_b : Pk) (w_l : Pk) (w_H : Pk) (w_k0 : Pk) (w_k1 : Pk) (w_k2 : Pk) (w_k3 : Pk) (w_k4 : Pk) (w_k5 : Pk) (w_k6 : Pk) (w_k7 : Pk) (w_x : Pk) (w_T : Pk) (w_L : Pk) (w_P : Pk) (w_C : Pk) (w_M : Pk) (w_Q : Pk) (w_d : Pk) (w_F : Pk) (w_G : Pk) (w_r : Pk) (w_n : Pk) (w_m : Pk) (y3 : Int32), fL_b888 L xs rec18 w_t w_w w_b w_l w_H w_k0 w_k1 w_k2 w_k3 w_k4 w_k5 w_k6 w_k7 w_x w_T w_L w_P w_C w_M w_Q w_d w_F w_G w_r w_n w_m y3 = some 1 → BK X 8 177 15831 888 ([nX9 cI cZ cQ h_t (h_w 0) (h_b 0) (h_l 0) (h_H 0) (h_x 0) (h_T 0) (h_C 0) (h_d 0) (h_F 0) (h_r 0) (h_n 0) w_t, nX8 cI cZ cQ h_w w_w, nX8 cI cZ cQ h_b w_b, nX8 cI cZ cQ h_l w_l, nX2 cI cZ cQ h_H (hkf h_k0 h_k1 h_k2 h_k3 h_k4 h_k5 h_k6 h_k7) w_H, nX8 cI cZ cQ h_k0 w_k0, nX8 cI cZ cQ h_k1 w_k1, nX8 cI cZ cQ h_k2 w_k2, nX8 cI cZ cQ h_k3 w_k3, nX8 cI cZ cQ h_k4 w_k4, nX8 cI cZ cQ h_k5 w_k5, nX8 cI cZ cQ h_k6 w_k6, nX8 cI cZ cQ h_k7 w_k7, nX7 cI cZ cQ h_x w_x, nX6 cI cZ cQ h_T (h_w 0) (h_L 0) (h_P 0) w_T, nX4 cI cZ cQ h_L (h_w 0) w_L, nX4 cI cZ cQ h_P (h_w 0) w_P, nX6 cI cZ cQ h_C (h_w 0) (h_M 0) (h_Q 0) w_C, nX4 cI cZ cQ h_M (h_w 0) w_M, nX4 cI cZ cQ h_Q (h_w 0) w_Q, nX0 cI cZ cQ h_d (h_w 0) (h_T 0) w_d, nX1 cI cZ cQ h_F (h_G 0) w_F, nX4 cI cZ cQ h_G (h_w 0) w_G, nX5 cI cZ cQ h_r (h_w 0) w_r, nX3 cI cZ cQ h_n (h_w 0) w_n, nX10 cI cZ cQ h_m w_m]) [(0, .ref bS), (1, .ref (h_t 0)), (2, .ref (h_m 0)), (3, .int y3)] [] := by
  intro w_t w_w w_b w_l w_H w_k0 w_k1 w_k2 w_k3 w_k4 w_k5 w_k6 w_k7 w_x w_T w_L w_P w_C w_M w_Q w_d w_F w_G w_r w_n w_m y3 hf
  unfold fL_b888 at hf
  refine r_ald_n O 889 rfl 1 rfl dL_law_888 ?_
  refine r_ald_n O 890 rfl 0 rfl dL_law_889 ?_
  refine r_ild_n O 891 rfl 3 rfl dL_law_890 ?_
  refine r_ic O 892 rfl 1 (by decide) dL_law_891 ?_
  refine r_iadd O 893 rfl dL_law_892 ?_
  obtain ⟨x893, ex893, hin893, hf⟩ := qld_some hf
  refine r_sld O S 894 rfl hin893 dL_law_893 ?_
  rw [← ex893]
  refine r_ald_n O 895 rfl 0 rfl dL_law_894 ?_
  refine r_ild_n O 896 rfl 3 rfl dL_law_895 ?_
  refine r_ic O 897 rfl 2 (by decide) dL_law_896 ?_
  refine r_iadd O 898 rfl dL_law_897 ?_
  obtain ⟨x898, ex898, hin898, hf⟩ := qld_some hf
  refine r_sld O S 899 rfl hin898 dL_law_898 ?_
  rw [← ex898]
  obtain ⟨x899, p899_t, p899_b, p899_T, p899_L, p899_P, hq899, hf⟩ := qb6_some hf
  refine k_VI O 902 rfl (zX9_locate (l := xl X) (D := xD X) (cI := cI) (cZ := cZ) (cQ := cQ) (h_t := h_t) (h_w := h_w) (h_b := h_b) (r_l := (h_l 0)) (r_H := (h_H 0)) (r_x := (h_x 0)) (h_T := h_T) (h_L := h_L) (h_P := h_P) (r_C := (h_C 0)) (r_d := (h_d 0)) (r_F := (h_F 0)) (r_r := (h_r 0)) (r_n := (h_n 0)) hq899) (gV mlL_123 mvX9_locate izX9) rfl rfl rfl hdX9_locate ⟨Nat.le_of_ble_eq_true rfl, Nat.le_of_ble_eq_true rfl⟩ rfl 0 rfl rfl rfl rfl (Nat.le_of_ble_eq_true rfl) ⟨Nat.le_of_ble_eq_true rfl, Nat.le_of_ble_eq_true rfl⟩ [0, 1, 2, 14, 15, 16] rfl rfl rfl ([nX9 cI cZ cQ h_t (h_w 0) (h_b 0) (h_l 0) (h_H 0) (h_x 0) (h_T 0) (h_C 0) (h_d 0) (h_F 0) (h_r 0) (h_n 0) p899_t, nX8 cI cZ cQ h_w w_w, nX8 cI cZ cQ h_b p899_b, nX8 cI cZ cQ h_l w_l, nX2 cI cZ cQ h_H (hkf h_k0 h_k1 h_k2 h_k3 h_k4 h_k5 h_k6 h_k7) w_H, nX8 cI cZ cQ h_k0 w_k0, nX8 cI cZ cQ h_k1 w_k1, nX8 cI cZ cQ h_k2 w_k2, nX8 cI cZ cQ h_k3 w_k3, nX8 cI cZ cQ h_k4 w_k4, nX8 cI cZ cQ h_k5 w_k5, nX8 cI cZ cQ h_k6 w_k6, nX8 cI cZ cQ h_k7 w_k7, nX7 cI cZ cQ h_x w_x, nX6 cI cZ cQ h_T (h_w 0) (h_L 0) (h_P 0) p899_T, nX4 cI cZ cQ h_L (h_w 0) p899_L, nX4 cI cZ cQ h_P (h_w 0) p899_P, nX6 cI cZ cQ h_C (h_w 0) (h_M 0) (h_Q 0) w_C, nX4 cI cZ cQ h_M (h_w 0) w_M, nX4 cI cZ cQ h_Q (h_w 0) w_Q, nX0 cI cZ cQ h_d (h_w 0) (h_T 0) w_d, nX1 cI cZ cQ h_F (h_G 0) w_F, nX4 cI cZ cQ h_G (h_w 0) w_G, nX5 cI cZ cQ h_r (h_w 0) w_r, nX3 cI cZ cQ h_n (h_w 0) w_n, nX10 cI cZ cQ h_m w_m]) rfl dL_law_899 ?_
  refine r_ald_n O 903 rfl 2 rfl dL_law_902 ?_
  refine r_ald_n O 904 rfl 0 rfl dL_law_903 ?_
  refine r_ild_n O 905 rfl 3 rfl dL_law_904 ?_
  refine r_ic O 906 rfl 1 (by decide) dL_law_905 ?_
  refine r_iadd O 907 rfl dL_law_906 ?_
  obtain ⟨x907, ex907, hin907, hf⟩ := qld_some hf
  refine r_sld O S 908 rfl hin907 dL_law_907 ?_
  rw [← ex907]
  refine r_ald_n O 909 rfl 0 rfl dL_law_908 ?_
  refine r_ild_n O 910 rfl 3 rfl dL_law_909 ?_
  refine r_ic O 911 rfl 2 (by decide) dL_law_910 ?_
  refine r_iadd O 912 rfl dL_law_911 ?_
  obtain ⟨x912, ex912, hin912, hf⟩ := qld_some hf
  refine r_sld O S 913 rfl hin912 dL_law_912 ?_
  rw [← ex912]
  obtain ⟨x913, p913_m, hq913, hf⟩ := qb2_some hf
  refine k_VI O 916 rfl (zX10_locate (l := xl X) (D := xD X) (cI := cI) (cZ := cZ) (cQ := cQ) (h_t := h_m) hq913) (gV mlL_126 mvX10_locate izX10) rfl rfl rfl hdX10_locate ⟨Nat.le_of_ble_eq_true rfl, Nat.le_of_ble_eq_true rfl⟩ rfl 25 rfl rfl rfl rfl (Nat.le_of_ble_eq_true rfl) ⟨Nat.le_of_ble_eq_true rfl, Nat.le_of_ble_eq_true rfl⟩ [25] rfl rfl rfl ([nX9 cI cZ cQ h_t (h_w 0) (h_b 0) (h_l 0) (h_H 0) (h_x 0) (h_T 0) (h_C 0) (h_d 0) (h_F 0) (h_r 0) (h_n 0) p899_t, nX8 cI cZ cQ h_w w_w, nX8 cI cZ cQ h_b p899_b, nX8 cI cZ cQ h_l w_l, nX2 cI cZ cQ h_H (hkf h_k0 h_k1 h_k2 h_k3 h_k4 h_k5 h_k6 h_k7) w_H, nX8 cI cZ cQ h_k0 w_k0, nX8 cI cZ cQ h_k1 w_k1, nX8 cI cZ cQ h_k2 w_k2, nX8 cI cZ cQ h_k3 w_k3, nX8 cI cZ cQ h_k4 w_k4, nX8 cI cZ cQ h_k5 w_k5, nX8 cI cZ cQ h_k6 w_k6, nX8 cI cZ cQ h_k7 w_k7, nX7 cI cZ cQ h_x w_x, nX6 cI cZ cQ h_T (h_w 0) (h_L 0) (h_P 0) p899_T, nX4 cI cZ cQ h_L (h_w 0) p899_L, nX4 cI cZ cQ h_P (h_w 0) p899_P, nX6 cI cZ cQ h_C (h_w 0) (h_M 0) (h_Q 0) w_C, nX4 cI cZ cQ h_M (h_w 0) w_M, nX4 cI cZ cQ h_Q (h_w 0) w_Q, nX0 cI cZ cQ h_d (h_w 0) (h_T 0) w_d, nX1 cI cZ cQ h_F (h_G 0) w_F, nX4 cI cZ cQ h_G (h_w 0) w_G, nX5 cI cZ cQ h_r (h_w 0) w_r, nX3 cI cZ cQ h_n (h_w 0) w_n, nX10 cI cZ cQ h_m p913_m]) rfl dL_law_913 ?_
  refine r_icmp_eq O 919 rfl 1795 dL_law_916 (by decide) (fun hc916 => ?_) (fun hc916 => ?_)
  · rw [if_pos hc916] at hf
    exact lwB1795 O S E rec18 hrec18 _ _ _ _ _ _ _ _ _ _ _ _ _ _ _ _ _ _ _ _ _ _ _ _ _ _ _ hf
  · rw [if_neg hc916] at hf
    refine r_ic O 920 rfl 0 (by decide) dL_law_919 ?_
    exact absurd (qe1 hf) (by decide)
set_option maxHeartbeats 40000000 in
set_option maxRecDepth 100000 in
theorem lwB381 {X : Cx} {cI cZ cQ : ClassId} {bS L : Nat} {xs : Nat → Int32} (O : OK X cL_law 8 RL wB room_1 cI cZ cQ) (S : SX X bS L xs) (E : ∀ {pc : Nat} {ws : List va_W} {lv : List (Nat × Value)}, decode cL_law pc = .ok (.ireturn, 1) → BK X 8 177 15831 pc ws lv [.int 1]) {h_t h_w h_b h_l h_H h_k0 h_k1 h_k2 h_k3 h_k4 h_k5 h_k6 h_k7 h_x h_T h_L h_P h_C h_M h_Q h_d h_F h_G h_r h_n h_m : Nat → Nat} (rec18 : Pk → Pk → Pk → Pk → Pk → Pk → Pk → Pk → Pk → Pk → Pk → Pk → Pk → Pk → Pk → Pk → Pk → Pk → Pk → Pk → Pk → Pk → Pk → Pk → Pk → Pk → Int32 → Option Int32) (hrec18 : ∀ (w_t : Pk) (w_w : Pk) (w_b : Pk) (w_l : Pk) (w_H : Pk) (w_k0 : Pk) (w_k1 : Pk) (w_k2 : Pk) (w_k3 : Pk) (w_k4 : Pk) (w_k5 : Pk) (w_k6 : Pk) (w_k7 : Pk) (w_x : Pk) (w_T : Pk) (w_L : Pk) (w_P : Pk) (w_C : Pk) (w_M : Pk) (w_Q : Pk) (w_d : Pk) (w_F : Pk) (w_G : Pk) (w_r : Pk) (w_n : Pk) (w_m : Pk) (y3 : Int32), rec18 w_t w_w w_b w_l w_H w_k0 w_k1 w_k2 w_k3 w_k4 w_k5 w_k6 w_k7 w_x w_T w_L w_P w_C w_M w_Q w_d w_F w_G w_r w_n w_m y3 = some 1 → BK X 8 177 15831 18 ([nX9 cI cZ cQ h_t (h_w 0) (h_b 0) (h_l 0) (h_H 0) (h_x 0) (h_T 0) (h_C 0) (h_d 0) (h_F 0) (h_r 0) (h_n 0) w_t, nX8 cI cZ cQ h_w w_w, nX8 cI cZ cQ h_b w_b, nX8 cI cZ cQ h_l w_l, nX2 cI cZ cQ h_H (hkf h_k0 h_k1 h_k2 h_k3 h_k4 h_k5 h_k6 h_k7) w_H, nX8 cI cZ cQ h_k0 w_k0, nX8 cI cZ cQ h_k1 w_k1, nX8 cI cZ cQ h_k2 w_k2, nX8 cI cZ cQ h_k3 w_k3, nX8 cI cZ cQ h_k4 w_k4, nX8 cI cZ cQ h_k5 w_k5, nX8 cI cZ cQ h_k6 w_k6, nX8 cI cZ cQ h_k7 w_k7, nX7 cI cZ cQ h_x w_x, nX6 cI cZ cQ h_T (h_w 0) (h_L 0) (h_P 0) w_T, nX4 cI cZ cQ h_L (h_w 0) w_L, nX4 cI cZ cQ h_P (h_w 0) w_P, nX6 cI cZ cQ h_C (h_w 0) (h_M 0) (h_Q 0) w_C, nX4 cI cZ cQ h_M (h_w 0) w_M, nX4 cI cZ cQ h_Q (h_w 0) w_Q, nX0 cI cZ cQ h_d (h_w 0) (h_T 0) w_d, nX1 cI cZ cQ h_F (h_G 0) w_F, nX4 cI cZ cQ h_G (h_w 0) w_G, nX5 cI cZ cQ h_r (h_w 0) w_r, nX3 cI cZ cQ h_n (h_w 0) w_n, nX10 cI cZ cQ h_m w_m]) [(0, .ref bS), (1, .ref (h_t 0)), (2, .ref (h_m 0)), (3, .int y3)] []) : ∀ (w_t : Pk) (w_w : Pk) (w_b : Pk) (w_l : Pk) (w_H : Pk) (w_k0 : Pk) (w_k1 : Pk) (w_k2 : Pk) (w_k3 : Pk) (w_k4 : Pk) (w_k5 : Pk) (w_k6 : Pk) (w_k7 : Pk) (w_x : Pk) (w_T : Pk) (w_L : Pk) (w_P : Pk) (w_C : Pk) (w_M : Pk) (w_Q : Pk) (w_d : Pk) (w_F : Pk) (w_G : Pk) (w_r : Pk) (w_n : Pk) (w_m : Pk) (y3 : Int32), fL_b381 L xs rec18 w_t w_w w_b w_l w_H w_k0 w_k1 w_k2 w_k3 w_k4 w_k5 w_k6 w_k7 w_x w_T w_L w_P w_C w_M w_Q w_d w_F w_G w_r w_n w_m y3 = some 1 → BK X 8 177 15831 381 ([nX9 cI cZ cQ h_t (h_w 0) (h_b 0) (h_l 0) (h_H 0) (h_x 0) (h_T 0) (h_C 0) (h_d 0) (h_F 0) (h_r 0) (h_n 0) w_t, nX8 cI cZ cQ h_w w_w, nX8 cI cZ cQ h_b w_b, nX8 cI cZ cQ h_l w_l, nX2 cI cZ cQ h_H (hkf h_k0 h_k1 h_k2 h_k3 h_k4 h_k5 h_k6 h_k7) w_H, nX8 cI cZ cQ h_k0 w_k0, nX8 cI cZ cQ h_k1 w_k1, nX8 cI cZ cQ h_k2 w_k2, nX8 cI cZ cQ h_k3 w_k3, nX8 cI cZ cQ h_k4 w_k4, nX8 cI cZ cQ h_k5 w_k5, nX8 cI cZ cQ h_k6 w_k6, nX8 cI cZ cQ h_k7 w_k7, nX7 cI cZ cQ h_x w_x, nX6 cI cZ cQ h_T (h_w 0) (h_L 0) (h_P 0) w_T, nX4 cI cZ cQ h_L (h_w 0) w_L, nX4 cI cZ cQ h_P (h_w 0) w_P, nX6 cI cZ cQ h_C (h_w 0) (h_M 0) (h_Q 0) w_C, nX4 cI cZ cQ h_M (h_w 0) w_M, nX4 cI cZ cQ h_Q (h_w 0) w_Q, nX0 cI cZ cQ h_d (h_w 0) (h_T 0) w_d, nX1 cI cZ cQ h_F (h_G 0) w_F, nX4 cI cZ cQ h_G (h_w 0) w_G, nX5 cI cZ cQ h_r (h_w 0) w_r, nX3 cI cZ cQ h_n (h_w 0) w_n, nX10 cI cZ cQ h_m w_m]) [(0, .ref bS), (1, .ref (h_t 0)), (2, .ref (h_m 0)), (3, .int y3)] [] := by
  intro w_t w_w w_b w_l w_H w_k0 w_k1 w_k2 w_k3 w_k4 w_k5 w_k6 w_k7 w_x w_T w_L w_P w_C w_M w_Q w_d w_F w_G w_r w_n w_m y3 hf
  unfold fL_b381 at hf
  refine r_ald_n O 382 rfl 1 rfl dL_law_381 ?_
  refine r_ald_n O 383 rfl 0 rfl dL_law_382 ?_
  refine r_ild_n O 384 rfl 3 rfl dL_law_383 ?_
  refine r_ic O 385 rfl 1 (by decide) dL_law_384 ?_
  refine r_iadd O 386 rfl dL_law_385 ?_
  obtain ⟨x386, ex386, hin386, hf⟩ := qld_some hf
  refine r_sld O S 387 rfl hin386 dL_law_386 ?_
  rw [← ex386]
  obtain ⟨x387, p387_t, p387_w, p387_H, p387_k0, p387_k1, p387_k2, p387_k3, p387_k4, p387_k5, p387_k6, p387_k7, hq387, hf⟩ := qb12_some hf
  refine k_VI O 390 rfl (zX9_turnWall (l := xl X) (D := xD X) (cI := cI) (cZ := cZ) (cQ := cQ) (h_t := h_t) (h_w := h_w) (r_b := (h_b 0)) (r_l := (h_l 0)) (h_H := h_H) (h_k0 := h_k0) (h_k1 := h_k1) (h_k2 := h_k2) (h_k3 := h_k3) (h_k4 := h_k4) (h_k5 := h_k5) (h_k6 := h_k6) (h_k7 := h_k7) (r_x := (h_x 0)) (r_T := (h_T 0)) (r_C := (h_C 0)) (r_d := (h_d 0)) (r_F := (h_F 0)) (r_r := (h_r 0)) (r_n := (h_n 0)) hq387) (gV mlL_28 mvX9_turnWall izX9) rfl rfl rfl hdX9_turnWall ⟨Nat.le_of_ble_eq_true rfl, Nat.le_of_ble_eq_true rfl⟩ rfl 0 rfl rfl rfl rfl (Nat.le_of_ble_eq_true rfl) ⟨Nat.le_of_ble_eq_true rfl, Nat.le_of_ble_eq_true rfl⟩ [0, 1, 4, 5, 6, 7, 8, 9, 10, 11, 12] rfl rfl rfl ([nX9 cI cZ cQ h_t (h_w 0) (h_b 0) (h_l 0) (h_H 0) (h_x 0) (h_T 0) (h_C 0) (h_d 0) (h_F 0) (h_r 0) (h_n 0) p387_t, nX8 cI cZ cQ h_w p387_w, nX8 cI cZ cQ h_b w_b, nX8 cI cZ cQ h_l w_l, nX2 cI cZ cQ h_H (hkf h_k0 h_k1 h_k2 h_k3 h_k4 h_k5 h_k6 h_k7) p387_H, nX8 cI cZ cQ h_k0 p387_k0, nX8 cI cZ cQ h_k1 p387_k1, nX8 cI cZ cQ h_k2 p387_k2, nX8 cI cZ cQ h_k3 p387_k3, nX8 cI cZ cQ h_k4 p387_k4, nX8 cI cZ cQ h_k5 p387_k5, nX8 cI cZ cQ h_k6 p387_k6, nX8 cI cZ cQ h_k7 p387_k7, nX7 cI cZ cQ h_x w_x, nX6 cI cZ cQ h_T (h_w 0) (h_L 0) (h_P 0) w_T, nX4 cI cZ cQ h_L (h_w 0) w_L, nX4 cI cZ cQ h_P (h_w 0) w_P, nX6 cI cZ cQ h_C (h_w 0) (h_M 0) (h_Q 0) w_C, nX4 cI cZ cQ h_M (h_w 0) w_M, nX4 cI cZ cQ h_Q (h_w 0) w_Q, nX0 cI cZ cQ h_d (h_w 0) (h_T 0) w_d, nX1 cI cZ cQ h_F (h_G 0) w_F, nX4 cI cZ cQ h_G (h_w 0) w_G, nX5 cI cZ cQ h_r (h_w 0) w_r, nX3 cI cZ cQ h_n (h_w 0) w_n, nX10 cI cZ cQ h_m w_m]) rfl dL_law_387 ?_
  refine r_ald_n O 391 rfl 2 rfl dL_law_390 ?_
  refine r_ald_n O 392 rfl 0 rfl dL_law_391 ?_
  refine r_ild_n O 393 rfl 3 rfl dL_law_392 ?_
  refine r_ic O 394 rfl 1 (by decide) dL_law_393 ?_
  refine r_iadd O 395 rfl dL_law_394 ?_
  obtain ⟨x395, ex395, hin395, hf⟩ := qld_some hf
  refine r_sld O S 396 rfl hin395 dL_law_395 ?_
  rw [← ex395]
  obtain ⟨x396, p396_m, hq396, hf⟩ := qb2_some hf
  refine k_VI O 399 rfl (zX10_turnWall (l := xl X) (D := xD X) (cI := cI) (cZ := cZ) (cQ := cQ) (h_t := h_m) hq396) (gV mlL_31 mvX10_turnWall izX10) rfl rfl rfl hdX10_turnWall ⟨Nat.le_of_ble_eq_true rfl, Nat.le_of_ble_eq_true rfl⟩ rfl 25 rfl rfl rfl rfl (Nat.le_of_ble_eq_true rfl) ⟨Nat.le_of_ble_eq_true rfl, Nat.le_of_ble_eq_true rfl⟩ [25] rfl rfl rfl ([nX9 cI cZ cQ h_t (h_w 0) (h_b 0) (h_l 0) (h_H 0) (h_x 0) (h_T 0) (h_C 0) (h_d 0) (h_F 0) (h_r 0) (h_n 0) p387_t, nX8 cI cZ cQ h_w p387_w, nX8 cI cZ cQ h_b w_b, nX8 cI cZ cQ h_l w_l, nX2 cI cZ cQ h_H (hkf h_k0 h_k1 h_k2 h_k3 h_k4 h_k5 h_k6 h_k7) p387_H, nX8 cI cZ cQ h_k0 p387_k0, nX8 cI cZ cQ h_k1 p387_k1, nX8 cI cZ cQ h_k2 p387_k2, nX8 cI cZ cQ h_k3 p387_k3, nX8 cI cZ cQ h_k4 p387_k4, nX8 cI cZ cQ h_k5 p387_k5, nX8 cI cZ cQ h_k6 p387_k6, nX8 cI cZ cQ h_k7 p387_k7, nX7 cI cZ cQ h_x w_x, nX6 cI cZ cQ h_T (h_w 0) (h_L 0) (h_P 0) w_T, nX4 cI cZ cQ h_L (h_w 0) w_L, nX4 cI cZ cQ h_P (h_w 0) w_P, nX6 cI cZ cQ h_C (h_w 0) (h_M 0) (h_Q 0) w_C, nX4 cI cZ cQ h_M (h_w 0) w_M, nX4 cI cZ cQ h_Q (h_w 0) w_Q, nX0 cI cZ cQ h_d (h_w 0) (h_T 0) w_d, nX1 cI cZ cQ h_F (h_G 0) w_F, nX4 cI cZ cQ h_G (h_w 0) w_G, nX5 cI cZ cQ h_r (h_w 0) w_r, nX3 cI cZ cQ h_n (h_w 0) w_n, nX10 cI cZ cQ h_m p396_m]) rfl dL_law_396 ?_
  refine r_icmp_eq O 402 rfl 1795 dL_law_399 (by decide) (fun hc399 => ?_) (fun hc399 => ?_)
  · rw [if_pos hc399] at hf
    exact lwB1795 O S E rec18 hrec18 _ _ _ _ _ _ _ _ _ _ _ _ _ _ _ _ _ _ _ _ _ _ _ _ _ _ _ hf
  · rw [if_neg hc399] at hf
    refine r_ic O 403 rfl 0 (by decide) dL_law_402 ?_
    exact absurd (qe1 hf) (by decide)
set_option maxHeartbeats 40000000 in
set_option maxRecDepth 100000 in
theorem lwB18 {X : Cx} {cI cZ cQ : ClassId} {bS L : Nat} {xs : Nat → Int32} (O : OK X cL_law 8 RL wB room_1 cI cZ cQ) (S : SX X bS L xs) (E : ∀ {pc : Nat} {ws : List va_W} {lv : List (Nat × Value)}, decode cL_law pc = .ok (.ireturn, 1) → BK X 8 177 15831 pc ws lv [.int 1]) {h_t h_w h_b h_l h_H h_k0 h_k1 h_k2 h_k3 h_k4 h_k5 h_k6 h_k7 h_x h_T h_L h_P h_C h_M h_Q h_d h_F h_G h_r h_n h_m : Nat → Nat} : ∀ (n : Nat) (w_t : Pk) (w_w : Pk) (w_b : Pk) (w_l : Pk) (w_H : Pk) (w_k0 : Pk) (w_k1 : Pk) (w_k2 : Pk) (w_k3 : Pk) (w_k4 : Pk) (w_k5 : Pk) (w_k6 : Pk) (w_k7 : Pk) (w_x : Pk) (w_T : Pk) (w_L : Pk) (w_P : Pk) (w_C : Pk) (w_M : Pk) (w_Q : Pk) (w_d : Pk) (w_F : Pk) (w_G : Pk) (w_r : Pk) (w_n : Pk) (w_m : Pk) (y3 : Int32), fL_b18 L xs n w_t w_w w_b w_l w_H w_k0 w_k1 w_k2 w_k3 w_k4 w_k5 w_k6 w_k7 w_x w_T w_L w_P w_C w_M w_Q w_d w_F w_G w_r w_n w_m y3 = some 1 → BK X 8 177 15831 18 ([nX9 cI cZ cQ h_t (h_w 0) (h_b 0) (h_l 0) (h_H 0) (h_x 0) (h_T 0) (h_C 0) (h_d 0) (h_F 0) (h_r 0) (h_n 0) w_t, nX8 cI cZ cQ h_w w_w, nX8 cI cZ cQ h_b w_b, nX8 cI cZ cQ h_l w_l, nX2 cI cZ cQ h_H (hkf h_k0 h_k1 h_k2 h_k3 h_k4 h_k5 h_k6 h_k7) w_H, nX8 cI cZ cQ h_k0 w_k0, nX8 cI cZ cQ h_k1 w_k1, nX8 cI cZ cQ h_k2 w_k2, nX8 cI cZ cQ h_k3 w_k3, nX8 cI cZ cQ h_k4 w_k4, nX8 cI cZ cQ h_k5 w_k5, nX8 cI cZ cQ h_k6 w_k6, nX8 cI cZ cQ h_k7 w_k7, nX7 cI cZ cQ h_x w_x, nX6 cI cZ cQ h_T (h_w 0) (h_L 0) (h_P 0) w_T, nX4 cI cZ cQ h_L (h_w 0) w_L, nX4 cI cZ cQ h_P (h_w 0) w_P, nX6 cI cZ cQ h_C (h_w 0) (h_M 0) (h_Q 0) w_C, nX4 cI cZ cQ h_M (h_w 0) w_M, nX4 cI cZ cQ h_Q (h_w 0) w_Q, nX0 cI cZ cQ h_d (h_w 0) (h_T 0) w_d, nX1 cI cZ cQ h_F (h_G 0) w_F, nX4 cI cZ cQ h_G (h_w 0) w_G, nX5 cI cZ cQ h_r (h_w 0) w_r, nX3 cI cZ cQ h_n (h_w 0) w_n, nX10 cI cZ cQ h_m w_m]) [(0, .ref bS), (1, .ref (h_t 0)), (2, .ref (h_m 0)), (3, .int y3)] [] := by
  intro n
  induction n with
  | zero => exact fun _ _ _ _ _ _ _ _ _ _ _ _ _ _ _ _ _ _ _ _ _ _ _ _ _ _ _ hf => qno hf
  | succ n hrec18 =>
    intro w_t w_w w_b w_l w_H w_k0 w_k1 w_k2 w_k3 w_k4 w_k5 w_k6 w_k7 w_x w_T w_L w_P w_C w_M w_Q w_d w_F w_G w_r w_n w_m y3 hf
    have hf : fL_b18_s L xs (fL_b18 L xs n) w_t w_w w_b w_l w_H w_k0 w_k1 w_k2 w_k3 w_k4 w_k5 w_k6 w_k7 w_x w_T w_L w_P w_C w_M w_Q w_d w_F w_G w_r w_n w_m y3 = some 1 := hf
    generalize fL_b18 L xs n = rec18 at hf hrec18
    unfold fL_b18_s at hf
    refine r_ild_n O 19 rfl 3 rfl dL_law_18 ?_
    refine r_ald_n O 20 rfl 0 rfl dL_law_19 ?_
    refine r_slen O S 21 rfl dL_law_20 ?_
    refine r_bi O 23 rfl 7 (by decide) dL_law_21 ?_
    refine r_isub O 24 rfl dL_law_23 ?_
    refine r_icmp_gt O 27 rfl 1801 dL_law_24 (by decide) (fun hc24 => ?_) (fun hc24 => ?_)
    · rw [if_pos hc24] at hf
      refine r_ic O 1802 rfl 1 (by decide) dL_law_1801 ?_
      exact E dL_law_1802
    · rw [if_neg hc24] at hf
      refine r_ald_n O 28 rfl 0 rfl dL_law_27 ?_
      refine r_ild_n O 29 rfl 3 rfl dL_law_28 ?_
      obtain ⟨x29, ex29, hin29, hf⟩ := qld_some hf
      refine r_sld O S 30 rfl hin29 dL_law_29 ?_
      rw [← ex29]
      refine r_bi O 32 rfl 63 (by decide) dL_law_30 ?_
      refine r_iand O 33 rfl dL_law_32 ?_
      obtain ⟨x33, ex33, hf⟩ := qn_some hf
      rw [← ex33]
      by_cases hc33_0 : x33 = 0
      · rw [if_pos hc33_0] at hf
        refine r_tabIn O 240 dL_law_33 (by rw [hc33_0]; decide) (by rw [hc33_0]; decide) (off := 207) (by rw [hc33_0]; rfl) (by decide) ?_
        exact lwB240 O S E rec18 hrec18 _ _ _ _ _ _ _ _ _ _ _ _ _ _ _ _ _ _ _ _ _ _ _ _ _ _ _ hf
      rw [if_neg hc33_0] at hf
      by_cases hc33_1 : x33 = 1
      · rw [if_pos hc33_1] at hf
        refine r_tabIn O 315 dL_law_33 (by rw [hc33_1]; decide) (by rw [hc33_1]; decide) (off := 282) (by rw [hc33_1]; rfl) (by decide) ?_
        exact lwB315 O S E rec18 hrec18 _ _ _ _ _ _ _ _ _ _ _ _ _ _ _ _ _ _ _ _ _ _ _ _ _ _ _ hf
      rw [if_neg hc33_1] at hf
      by_cases hc33_2 : x33 = 2
      · rw [if_pos hc33_2] at hf
        refine r_tabIn O 338 dL_law_33 (by rw [hc33_2]; decide) (by rw [hc33_2]; decide) (off := 305) (by rw [hc33_2]; rfl) (by decide) ?_
        exact lwB338 O S E rec18 hrec18 _ _ _ _ _ _ _ _ _ _ _ _ _ _ _ _ _ _ _ _ _ _ _ _ _ _ _ hf
      rw [if_neg hc33_2] at hf
      by_cases hc33_3 : x33 = 3
      · rw [if_pos hc33_3] at hf
        refine r_tabIn O 381 dL_law_33 (by rw [hc33_3]; decide) (by rw [hc33_3]; decide) (off := 348) (by rw [hc33_3]; rfl) (by decide) ?_
        exact lwB381 O S E rec18 hrec18 _ _ _ _ _ _ _ _ _ _ _ _ _ _ _ _ _ _ _ _ _ _ _ _ _ _ _ hf
      rw [if_neg hc33_3] at hf
      by_cases hc33_4 : x33 = 4
      · rw [if_pos hc33_4] at hf
        refine r_tabIn O 404 dL_law_33 (by rw [hc33_4]; decide) (by rw [hc33_4]; decide) (off := 371) (by rw [hc33_4]; rfl) (by decide) ?_
        exact lwB404 O S E rec18 hrec18 _ _ _ _ _ _ _ _ _ _ _ _ _ _ _ _ _ _ _ _ _ _ _ _ _ _ _ hf
      rw [if_neg hc33_4] at hf
      by_cases hc33_5 : x33 = 5
      · rw [if_pos hc33_5] at hf
        refine r_tabIn O 437 dL_law_33 (by rw [hc33_5]; decide) (by rw [hc33_5]; decide) (off := 404) (by rw [hc33_5]; rfl) (by decide) ?_
        exact lwB437 O S E rec18 hrec18 _ _ _ _ _ _ _ _ _ _ _ _ _ _ _ _ _ _ _ _ _ _ _ _ _ _ _ hf
      rw [if_neg hc33_5] at hf
      by_cases hc33_6 : x33 = 6
      · rw [if_pos hc33_6] at hf
        refine r_tabIn O 470 dL_law_33 (by rw [hc33_6]; decide) (by rw [hc33_6]; decide) (off := 437) (by rw [hc33_6]; rfl) (by decide) ?_
        exact lwB470 O S E rec18 hrec18 _ _ _ _ _ _ _ _ _ _ _ _ _ _ _ _ _ _ _ _ _ _ _ _ _ _ _ hf
      rw [if_neg hc33_6] at hf
      by_cases hc33_7 : x33 = 7
      · rw [if_pos hc33_7] at hf
        refine r_tabIn O 483 dL_law_33 (by rw [hc33_7]; decide) (by rw [hc33_7]; decide) (off := 450) (by rw [hc33_7]; rfl) (by decide) ?_
        exact lwB483 O S E rec18 hrec18 _ _ _ _ _ _ _ _ _ _ _ _ _ _ _ _ _ _ _ _ _ _ _ _ _ _ _ hf
      rw [if_neg hc33_7] at hf
      by_cases hc33_8 : x33 = 8
      · rw [if_pos hc33_8] at hf
        refine r_tabIn O 496 dL_law_33 (by rw [hc33_8]; decide) (by rw [hc33_8]; decide) (off := 463) (by rw [hc33_8]; rfl) (by decide) ?_
        exact lwB496 O S E rec18 hrec18 _ _ _ _ _ _ _ _ _ _ _ _ _ _ _ _ _ _ _ _ _ _ _ _ _ _ _ hf
      rw [if_neg hc33_8] at hf
      by_cases hc33_9 : x33 = 9
      · rw [if_pos hc33_9] at hf
        refine r_tabIn O 529 dL_law_33 (by rw [hc33_9]; decide) (by rw [hc33_9]; decide) (off := 496) (by rw [hc33_9]; rfl) (by decide) ?_
        exact lwB529 O S E rec18 hrec18 _ _ _ _ _ _ _ _ _ _ _ _ _ _ _ _ _ _ _ _ _ _ _ _ _ _ _ hf
      rw [if_neg hc33_9] at hf
      by_cases hc33_10 : x33 = 10
      · rw [if_pos hc33_10] at hf
        refine r_tabIn O 552 dL_law_33 (by rw [hc33_10]; decide) (by rw [hc33_10]; decide) (off := 519) (by rw [hc33_10]; rfl) (by decide) ?_
        exact lwB552 O S E rec18 hrec18 _ _ _ _ _ _ _ _ _ _ _ _ _ _ _ _ _ _ _ _ _ _ _ _ _ _ _ hf
      rw [if_neg hc33_10] at hf
      by_cases hc33_11 : x33 = 11
      · rw [if_pos hc33_11] at hf
        refine r_tabIn O 565 dL_law_33 (by rw [hc33_11]; decide) (by rw [hc33_11]; decide) (off := 532) (by rw [hc33_11]; rfl) (by decide) ?_
        exact lwB565 O S E rec18 hrec18 _ _ _ _ _ _ _ _ _ _ _ _ _ _ _ _ _ _ _ _ _ _ _ _ _ _ _ hf
      rw [if_neg hc33_11] at hf
      by_cases hc33_12 : x33 = 12
      · rw [if_pos hc33_12] at hf
        refine r_tabIn O 588 dL_law_33 (by rw [hc33_12]; decide) (by rw [hc33_12]; decide) (off := 555) (by rw [hc33_12]; rfl) (by decide) ?_
        exact lwB588 O S E rec18 hrec18 _ _ _ _ _ _ _ _ _ _ _ _ _ _ _ _ _ _ _ _ _ _ _ _ _ _ _ hf
      rw [if_neg hc33_12] at hf
      by_cases hc33_13 : x33 = 13
      · rw [if_pos hc33_13] at hf
        refine r_tabIn O 601 dL_law_33 (by rw [hc33_13]; decide) (by rw [hc33_13]; decide) (off := 568) (by rw [hc33_13]; rfl) (by decide) ?_
        exact lwB601 O S E rec18 hrec18 _ _ _ _ _ _ _ _ _ _ _ _ _ _ _ _ _ _ _ _ _ _ _ _ _ _ _ hf
      rw [if_neg hc33_13] at hf
      by_cases hc33_14 : x33 = 14
      · rw [if_pos hc33_14] at hf
        refine r_tabIn O 614 dL_law_33 (by rw [hc33_14]; decide) (by rw [hc33_14]; decide) (off := 581) (by rw [hc33_14]; rfl) (by decide) ?_
        exact lwB614 O S E rec18 hrec18 _ _ _ _ _ _ _ _ _ _ _ _ _ _ _ _ _ _ _ _ _ _ _ _ _ _ _ hf
      rw [if_neg hc33_14] at hf
      by_cases hc33_15 : x33 = 15
      · rw [if_pos hc33_15] at hf
        refine r_tabIn O 627 dL_law_33 (by rw [hc33_15]; decide) (by rw [hc33_15]; decide) (off := 594) (by rw [hc33_15]; rfl) (by decide) ?_
        exact lwB627 O S E rec18 hrec18 _ _ _ _ _ _ _ _ _ _ _ _ _ _ _ _ _ _ _ _ _ _ _ _ _ _ _ hf
      rw [if_neg hc33_15] at hf
      by_cases hc33_16 : x33 = 16
      · rw [if_pos hc33_16] at hf
        refine r_tabIn O 640 dL_law_33 (by rw [hc33_16]; decide) (by rw [hc33_16]; decide) (off := 607) (by rw [hc33_16]; rfl) (by decide) ?_
        exact lwB640 O S E rec18 hrec18 _ _ _ _ _ _ _ _ _ _ _ _ _ _ _ _ _ _ _ _ _ _ _ _ _ _ _ hf
      rw [if_neg hc33_16] at hf
      by_cases hc33_17 : x33 = 17
      · rw [if_pos hc33_17] at hf
        refine r_tabIn O 653 dL_law_33 (by rw [hc33_17]; decide) (by rw [hc33_17]; decide) (off := 620) (by rw [hc33_17]; rfl) (by decide) ?_
        exact lwB653 O S E rec18 hrec18 _ _ _ _ _ _ _ _ _ _ _ _ _ _ _ _ _ _ _ _ _ _ _ _ _ _ _ hf
      rw [if_neg hc33_17] at hf
      by_cases hc33_18 : x33 = 18
      · rw [if_pos hc33_18] at hf
        refine r_tabIn O 666 dL_law_33 (by rw [hc33_18]; decide) (by rw [hc33_18]; decide) (off := 633) (by rw [hc33_18]; rfl) (by decide) ?_
        exact lwB666 O S E rec18 hrec18 _ _ _ _ _ _ _ _ _ _ _ _ _ _ _ _ _ _ _ _ _ _ _ _ _ _ _ hf
      rw [if_neg hc33_18] at hf
      by_cases hc33_19 : x33 = 19
      · rw [if_pos hc33_19] at hf
        refine r_tabIn O 689 dL_law_33 (by rw [hc33_19]; decide) (by rw [hc33_19]; decide) (off := 656) (by rw [hc33_19]; rfl) (by decide) ?_
        exact lwB689 O S E rec18 hrec18 _ _ _ _ _ _ _ _ _ _ _ _ _ _ _ _ _ _ _ _ _ _ _ _ _ _ _ hf
      rw [if_neg hc33_19] at hf
      by_cases hc33_20 : x33 = 20
      · rw [if_pos hc33_20] at hf
        refine r_tabIn O 722 dL_law_33 (by rw [hc33_20]; decide) (by rw [hc33_20]; decide) (off := 689) (by rw [hc33_20]; rfl) (by decide) ?_
        exact lwB722 O S E rec18 hrec18 _ _ _ _ _ _ _ _ _ _ _ _ _ _ _ _ _ _ _ _ _ _ _ _ _ _ _ hf
      rw [if_neg hc33_20] at hf
      by_cases hc33_21 : x33 = 21
      · rw [if_pos hc33_21] at hf
        refine r_tabIn O 745 dL_law_33 (by rw [hc33_21]; decide) (by rw [hc33_21]; decide) (off := 712) (by rw [hc33_21]; rfl) (by decide) ?_
        exact lwB745 O S E rec18 hrec18 _ _ _ _ _ _ _ _ _ _ _ _ _ _ _ _ _ _ _ _ _ _ _ _ _ _ _ hf
      rw [if_neg hc33_21] at hf
      by_cases hc33_22 : x33 = 22
      · rw [if_pos hc33_22] at hf
        refine r_tabIn O 758 dL_law_33 (by rw [hc33_22]; decide) (by rw [hc33_22]; decide) (off := 725) (by rw [hc33_22]; rfl) (by decide) ?_
        exact lwB758 O S E rec18 hrec18 _ _ _ _ _ _ _ _ _ _ _ _ _ _ _ _ _ _ _ _ _ _ _ _ _ _ _ hf
      rw [if_neg hc33_22] at hf
      by_cases hc33_23 : x33 = 23
      · rw [if_pos hc33_23] at hf
        refine r_tabIn O 781 dL_law_33 (by rw [hc33_23]; decide) (by rw [hc33_23]; decide) (off := 748) (by rw [hc33_23]; rfl) (by decide) ?_
        exact lwB781 O S E rec18 hrec18 _ _ _ _ _ _ _ _ _ _ _ _ _ _ _ _ _ _ _ _ _ _ _ _ _ _ _ hf
      rw [if_neg hc33_23] at hf
      by_cases hc33_24 : x33 = 24
      · rw [if_pos hc33_24] at hf
        refine r_tabIn O 804 dL_law_33 (by rw [hc33_24]; decide) (by rw [hc33_24]; decide) (off := 771) (by rw [hc33_24]; rfl) (by decide) ?_
        exact lwB804 O S E rec18 hrec18 _ _ _ _ _ _ _ _ _ _ _ _ _ _ _ _ _ _ _ _ _ _ _ _ _ _ _ hf
      rw [if_neg hc33_24] at hf
      by_cases hc33_25 : x33 = 25
      · rw [if_pos hc33_25] at hf
        refine r_tabIn O 837 dL_law_33 (by rw [hc33_25]; decide) (by rw [hc33_25]; decide) (off := 804) (by rw [hc33_25]; rfl) (by decide) ?_
        exact lwB837 O S E rec18 hrec18 _ _ _ _ _ _ _ _ _ _ _ _ _ _ _ _ _ _ _ _ _ _ _ _ _ _ _ hf
      rw [if_neg hc33_25] at hf
      by_cases hc33_26 : x33 = 26
      · rw [if_pos hc33_26] at hf
        refine r_tabIn O 888 dL_law_33 (by rw [hc33_26]; decide) (by rw [hc33_26]; decide) (off := 855) (by rw [hc33_26]; rfl) (by decide) ?_
        exact lwB888 O S E rec18 hrec18 _ _ _ _ _ _ _ _ _ _ _ _ _ _ _ _ _ _ _ _ _ _ _ _ _ _ _ hf
      rw [if_neg hc33_26] at hf
      by_cases hc33_27 : x33 = 27
      · rw [if_pos hc33_27] at hf
        refine r_tabIn O 921 dL_law_33 (by rw [hc33_27]; decide) (by rw [hc33_27]; decide) (off := 888) (by rw [hc33_27]; rfl) (by decide) ?_
        exact lwB921 O S E rec18 hrec18 _ _ _ _ _ _ _ _ _ _ _ _ _ _ _ _ _ _ _ _ _ _ _ _ _ _ _ hf
      rw [if_neg hc33_27] at hf
      by_cases hc33_28 : x33 = 28
      · rw [if_pos hc33_28] at hf
        refine r_tabIn O 962 dL_law_33 (by rw [hc33_28]; decide) (by rw [hc33_28]; decide) (off := 929) (by rw [hc33_28]; rfl) (by decide) ?_
        exact lwB962 O S E rec18 hrec18 _ _ _ _ _ _ _ _ _ _ _ _ _ _ _ _ _ _ _ _ _ _ _ _ _ _ _ hf
      rw [if_neg hc33_28] at hf
      by_cases hc33_29 : x33 = 29
      · rw [if_pos hc33_29] at hf
        refine r_tabIn O 975 dL_law_33 (by rw [hc33_29]; decide) (by rw [hc33_29]; decide) (off := 942) (by rw [hc33_29]; rfl) (by decide) ?_
        exact lwB975 O S E rec18 hrec18 _ _ _ _ _ _ _ _ _ _ _ _ _ _ _ _ _ _ _ _ _ _ _ _ _ _ _ hf
      rw [if_neg hc33_29] at hf
      by_cases hc33_30 : x33 = 30
      · rw [if_pos hc33_30] at hf
        refine r_tabIn O 1008 dL_law_33 (by rw [hc33_30]; decide) (by rw [hc33_30]; decide) (off := 975) (by rw [hc33_30]; rfl) (by decide) ?_
        exact lwB1008 O S E rec18 hrec18 _ _ _ _ _ _ _ _ _ _ _ _ _ _ _ _ _ _ _ _ _ _ _ _ _ _ _ hf
      rw [if_neg hc33_30] at hf
      by_cases hc33_31 : x33 = 31
      · rw [if_pos hc33_31] at hf
        refine r_tabIn O 1051 dL_law_33 (by rw [hc33_31]; decide) (by rw [hc33_31]; decide) (off := 1018) (by rw [hc33_31]; rfl) (by decide) ?_
        exact lwB1051 O S E rec18 hrec18 _ _ _ _ _ _ _ _ _ _ _ _ _ _ _ _ _ _ _ _ _ _ _ _ _ _ _ hf
      rw [if_neg hc33_31] at hf
      by_cases hc33_32 : x33 = 32
      · rw [if_pos hc33_32] at hf
        refine r_tabIn O 1104 dL_law_33 (by rw [hc33_32]; decide) (by rw [hc33_32]; decide) (off := 1071) (by rw [hc33_32]; rfl) (by decide) ?_
        exact lwB1104 O S E rec18 hrec18 _ _ _ _ _ _ _ _ _ _ _ _ _ _ _ _ _ _ _ _ _ _ _ _ _ _ _ hf
      rw [if_neg hc33_32] at hf
      by_cases hc33_33 : x33 = 33
      · rw [if_pos hc33_33] at hf
        refine r_tabIn O 1167 dL_law_33 (by rw [hc33_33]; decide) (by rw [hc33_33]; decide) (off := 1134) (by rw [hc33_33]; rfl) (by decide) ?_
        exact lwB1167 O S E rec18 hrec18 _ _ _ _ _ _ _ _ _ _ _ _ _ _ _ _ _ _ _ _ _ _ _ _ _ _ _ hf
      rw [if_neg hc33_33] at hf
      by_cases hc33_34 : x33 = 34
      · rw [if_pos hc33_34] at hf
        refine r_tabIn O 1220 dL_law_33 (by rw [hc33_34]; decide) (by rw [hc33_34]; decide) (off := 1187) (by rw [hc33_34]; rfl) (by decide) ?_
        exact lwB1220 O S E rec18 hrec18 _ _ _ _ _ _ _ _ _ _ _ _ _ _ _ _ _ _ _ _ _ _ _ _ _ _ _ hf
      rw [if_neg hc33_34] at hf
      by_cases hc33_35 : x33 = 35
      · rw [if_pos hc33_35] at hf
        refine r_tabIn O 1283 dL_law_33 (by rw [hc33_35]; decide) (by rw [hc33_35]; decide) (off := 1250) (by rw [hc33_35]; rfl) (by decide) ?_
        exact lwB1283 O S E rec18 hrec18 _ _ _ _ _ _ _ _ _ _ _ _ _ _ _ _ _ _ _ _ _ _ _ _ _ _ _ hf
      rw [if_neg hc33_35] at hf
      by_cases hc33_36 : x33 = 36
      · rw [if_pos hc33_36] at hf
        refine r_tabIn O 1358 dL_law_33 (by rw [hc33_36]; decide) (by rw [hc33_36]; decide) (off := 1325) (by rw [hc33_36]; rfl) (by decide) ?_
        exact lwB1358 O S E rec18 hrec18 _ _ _ _ _ _ _ _ _ _ _ _ _ _ _ _ _ _ _ _ _ _ _ _ _ _ _ hf
      rw [if_neg hc33_36] at hf
      by_cases hc33_37 : x33 = 37
      · rw [if_pos hc33_37] at hf
        refine r_tabIn O 1421 dL_law_33 (by rw [hc33_37]; decide) (by rw [hc33_37]; decide) (off := 1388) (by rw [hc33_37]; rfl) (by decide) ?_
        exact lwB1421 O S E rec18 hrec18 _ _ _ _ _ _ _ _ _ _ _ _ _ _ _ _ _ _ _ _ _ _ _ _ _ _ _ hf
      rw [if_neg hc33_37] at hf
      by_cases hc33_38 : x33 = 38
      · rw [if_pos hc33_38] at hf
        refine r_tabIn O 1484 dL_law_33 (by rw [hc33_38]; decide) (by rw [hc33_38]; decide) (off := 1451) (by rw [hc33_38]; rfl) (by decide) ?_
        exact lwB1484 O S E rec18 hrec18 _ _ _ _ _ _ _ _ _ _ _ _ _ _ _ _ _ _ _ _ _ _ _ _ _ _ _ hf
      rw [if_neg hc33_38] at hf
      by_cases hc33_39 : x33 = 39
      · rw [if_pos hc33_39] at hf
        refine r_tabIn O 1517 dL_law_33 (by rw [hc33_39]; decide) (by rw [hc33_39]; decide) (off := 1484) (by rw [hc33_39]; rfl) (by decide) ?_
        exact lwB1517 O S E rec18 hrec18 _ _ _ _ _ _ _ _ _ _ _ _ _ _ _ _ _ _ _ _ _ _ _ _ _ _ _ hf
      rw [if_neg hc33_39] at hf
      by_cases hc33_40 : x33 = 40
      · rw [if_pos hc33_40] at hf
        refine r_tabIn O 1540 dL_law_33 (by rw [hc33_40]; decide) (by rw [hc33_40]; decide) (off := 1507) (by rw [hc33_40]; rfl) (by decide) ?_
        exact lwB1540 O S E rec18 hrec18 _ _ _ _ _ _ _ _ _ _ _ _ _ _ _ _ _ _ _ _ _ _ _ _ _ _ _ hf
      rw [if_neg hc33_40] at hf
      by_cases hc33_41 : x33 = 41
      · rw [if_pos hc33_41] at hf
        refine r_tabIn O 1593 dL_law_33 (by rw [hc33_41]; decide) (by rw [hc33_41]; decide) (off := 1560) (by rw [hc33_41]; rfl) (by decide) ?_
        exact lwB1593 O S E rec18 hrec18 _ _ _ _ _ _ _ _ _ _ _ _ _ _ _ _ _ _ _ _ _ _ _ _ _ _ _ hf
      rw [if_neg hc33_41] at hf
      by_cases hc33_42 : x33 = 42
      · rw [if_pos hc33_42] at hf
        refine r_tabIn O 1646 dL_law_33 (by rw [hc33_42]; decide) (by rw [hc33_42]; decide) (off := 1613) (by rw [hc33_42]; rfl) (by decide) ?_
        exact lwB1646 O S E rec18 hrec18 _ _ _ _ _ _ _ _ _ _ _ _ _ _ _ _ _ _ _ _ _ _ _ _ _ _ _ hf
      rw [if_neg hc33_42] at hf
      by_cases hc33_43 : x33 = 43
      · rw [if_pos hc33_43] at hf
        refine r_tabIn O 1679 dL_law_33 (by rw [hc33_43]; decide) (by rw [hc33_43]; decide) (off := 1646) (by rw [hc33_43]; rfl) (by decide) ?_
        exact lwB1679 O S E rec18 hrec18 _ _ _ _ _ _ _ _ _ _ _ _ _ _ _ _ _ _ _ _ _ _ _ _ _ _ _ hf
      rw [if_neg hc33_43] at hf
      by_cases hc33_44 : x33 = 44
      · rw [if_pos hc33_44] at hf
        refine r_tabIn O 1723 dL_law_33 (by rw [hc33_44]; decide) (by rw [hc33_44]; decide) (off := 1690) (by rw [hc33_44]; rfl) (by decide) ?_
        exact lwB1723 O S E rec18 hrec18 _ _ _ _ _ _ _ _ _ _ _ _ _ _ _ _ _ _ _ _ _ _ _ _ _ _ _ hf
      rw [if_neg hc33_44] at hf
      by_cases hc33_45 : x33 = 45
      · rw [if_pos hc33_45] at hf
        refine r_tabIn O 1756 dL_law_33 (by rw [hc33_45]; decide) (by rw [hc33_45]; decide) (off := 1723) (by rw [hc33_45]; rfl) (by decide) ?_
        exact lwB1756 O S E rec18 hrec18 _ _ _ _ _ _ _ _ _ _ _ _ _ _ _ _ _ _ _ _ _ _ _ _ _ _ _ hf
      rw [if_neg hc33_45] at hf
      by_cases hc33_46 : x33 = 46
      · rw [if_pos hc33_46] at hf
        refine r_tabIn O 1769 dL_law_33 (by rw [hc33_46]; decide) (by rw [hc33_46]; decide) (off := 1736) (by rw [hc33_46]; rfl) (by decide) ?_
        exact lwB1769 O S E rec18 hrec18 _ _ _ _ _ _ _ _ _ _ _ _ _ _ _ _ _ _ _ _ _ _ _ _ _ _ _ hf
      rw [if_neg hc33_46] at hf
      by_cases hc33_47 : x33 = 47
      · rw [if_pos hc33_47] at hf
        refine r_tabIn O 1782 dL_law_33 (by rw [hc33_47]; decide) (by rw [hc33_47]; decide) (off := 1749) (by rw [hc33_47]; rfl) (by decide) ?_
        exact lwB1782 O S E rec18 hrec18 _ _ _ _ _ _ _ _ _ _ _ _ _ _ _ _ _ _ _ _ _ _ _ _ _ _ _ hf
      rw [if_neg hc33_47] at hf
      have hi33_0 : x33.toInt ≠ 0 := fun e => hc33_0 (Int32.toInt_inj.mp (by rw [e]; rfl))
      have hi33_1 : x33.toInt ≠ 1 := fun e => hc33_1 (Int32.toInt_inj.mp (by rw [e]; rfl))
      have hi33_2 : x33.toInt ≠ 2 := fun e => hc33_2 (Int32.toInt_inj.mp (by rw [e]; rfl))
      have hi33_3 : x33.toInt ≠ 3 := fun e => hc33_3 (Int32.toInt_inj.mp (by rw [e]; rfl))
      have hi33_4 : x33.toInt ≠ 4 := fun e => hc33_4 (Int32.toInt_inj.mp (by rw [e]; rfl))
      have hi33_5 : x33.toInt ≠ 5 := fun e => hc33_5 (Int32.toInt_inj.mp (by rw [e]; rfl))
      have hi33_6 : x33.toInt ≠ 6 := fun e => hc33_6 (Int32.toInt_inj.mp (by rw [e]; rfl))
      have hi33_7 : x33.toInt ≠ 7 := fun e => hc33_7 (Int32.toInt_inj.mp (by rw [e]; rfl))
      have hi33_8 : x33.toInt ≠ 8 := fun e => hc33_8 (Int32.toInt_inj.mp (by rw [e]; rfl))
      have hi33_9 : x33.toInt ≠ 9 := fun e => hc33_9 (Int32.toInt_inj.mp (by rw [e]; rfl))
      have hi33_10 : x33.toInt ≠ 10 := fun e => hc33_10 (Int32.toInt_inj.mp (by rw [e]; rfl))
      have hi33_11 : x33.toInt ≠ 11 := fun e => hc33_11 (Int32.toInt_inj.mp (by rw [e]; rfl))
      have hi33_12 : x33.toInt ≠ 12 := fun e => hc33_12 (Int32.toInt_inj.mp (by rw [e]; rfl))
      have hi33_13 : x33.toInt ≠ 13 := fun e => hc33_13 (Int32.toInt_inj.mp (by rw [e]; rfl))
      have hi33_14 : x33.toInt ≠ 14 := fun e => hc33_14 (Int32.toInt_inj.mp (by rw [e]; rfl))
      have hi33_15 : x33.toInt ≠ 15 := fun e => hc33_15 (Int32.toInt_inj.mp (by rw [e]; rfl))
      have hi33_16 : x33.toInt ≠ 16 := fun e => hc33_16 (Int32.toInt_inj.mp (by rw [e]; rfl))
      have hi33_17 : x33.toInt ≠ 17 := fun e => hc33_17 (Int32.toInt_inj.mp (by rw [e]; rfl))
      have hi33_18 : x33.toInt ≠ 18 := fun e => hc33_18 (Int32.toInt_inj.mp (by rw [e]; rfl))
      have hi33_19 : x33.toInt ≠ 19 := fun e => hc33_19 (Int32.toInt_inj.mp (by rw [e]; rfl))
      have hi33_20 : x33.toInt ≠ 20 := fun e => hc33_20 (Int32.toInt_inj.mp (by rw [e]; rfl))
      have hi33_21 : x33.toInt ≠ 21 := fun e => hc33_21 (Int32.toInt_inj.mp (by rw [e]; rfl))
      have hi33_22 : x33.toInt ≠ 22 := fun e => hc33_22 (Int32.toInt_inj.mp (by rw [e]; rfl))
      have hi33_23 : x33.toInt ≠ 23 := fun e => hc33_23 (Int32.toInt_inj.mp (by rw [e]; rfl))
      have hi33_24 : x33.toInt ≠ 24 := fun e => hc33_24 (Int32.toInt_inj.mp (by rw [e]; rfl))
      have hi33_25 : x33.toInt ≠ 25 := fun e => hc33_25 (Int32.toInt_inj.mp (by rw [e]; rfl))
      have hi33_26 : x33.toInt ≠ 26 := fun e => hc33_26 (Int32.toInt_inj.mp (by rw [e]; rfl))
      have hi33_27 : x33.toInt ≠ 27 := fun e => hc33_27 (Int32.toInt_inj.mp (by rw [e]; rfl))
      have hi33_28 : x33.toInt ≠ 28 := fun e => hc33_28 (Int32.toInt_inj.mp (by rw [e]; rfl))
      have hi33_29 : x33.toInt ≠ 29 := fun e => hc33_29 (Int32.toInt_inj.mp (by rw [e]; rfl))
      have hi33_30 : x33.toInt ≠ 30 := fun e => hc33_30 (Int32.toInt_inj.mp (by rw [e]; rfl))
      have hi33_31 : x33.toInt ≠ 31 := fun e => hc33_31 (Int32.toInt_inj.mp (by rw [e]; rfl))
      have hi33_32 : x33.toInt ≠ 32 := fun e => hc33_32 (Int32.toInt_inj.mp (by rw [e]; rfl))
      have hi33_33 : x33.toInt ≠ 33 := fun e => hc33_33 (Int32.toInt_inj.mp (by rw [e]; rfl))
      have hi33_34 : x33.toInt ≠ 34 := fun e => hc33_34 (Int32.toInt_inj.mp (by rw [e]; rfl))
      have hi33_35 : x33.toInt ≠ 35 := fun e => hc33_35 (Int32.toInt_inj.mp (by rw [e]; rfl))
      have hi33_36 : x33.toInt ≠ 36 := fun e => hc33_36 (Int32.toInt_inj.mp (by rw [e]; rfl))
      have hi33_37 : x33.toInt ≠ 37 := fun e => hc33_37 (Int32.toInt_inj.mp (by rw [e]; rfl))
      have hi33_38 : x33.toInt ≠ 38 := fun e => hc33_38 (Int32.toInt_inj.mp (by rw [e]; rfl))
      have hi33_39 : x33.toInt ≠ 39 := fun e => hc33_39 (Int32.toInt_inj.mp (by rw [e]; rfl))
      have hi33_40 : x33.toInt ≠ 40 := fun e => hc33_40 (Int32.toInt_inj.mp (by rw [e]; rfl))
      have hi33_41 : x33.toInt ≠ 41 := fun e => hc33_41 (Int32.toInt_inj.mp (by rw [e]; rfl))
      have hi33_42 : x33.toInt ≠ 42 := fun e => hc33_42 (Int32.toInt_inj.mp (by rw [e]; rfl))
      have hi33_43 : x33.toInt ≠ 43 := fun e => hc33_43 (Int32.toInt_inj.mp (by rw [e]; rfl))
      have hi33_44 : x33.toInt ≠ 44 := fun e => hc33_44 (Int32.toInt_inj.mp (by rw [e]; rfl))
      have hi33_45 : x33.toInt ≠ 45 := fun e => hc33_45 (Int32.toInt_inj.mp (by rw [e]; rfl))
      have hi33_46 : x33.toInt ≠ 46 := fun e => hc33_46 (Int32.toInt_inj.mp (by rw [e]; rfl))
      have hi33_47 : x33.toInt ≠ 47 := fun e => hc33_47 (Int32.toInt_inj.mp (by rw [e]; rfl))
      refine r_tabOut O 1795 dL_law_33 (by omega) (by decide) ?_
      exact lwB1795 O S E rec18 hrec18 _ _ _ _ _ _ _ _ _ _ _ _ _ _ _ _ _ _ _ _ _ _ _ _ _ _ _ hf
