set_option maxHeartbeats 40000000 in
set_option maxRecDepth 100000 in
theorem lwB565 {X : Cx} {cI cZ cQ : ClassId} {bS L : Nat} {xs : Nat → Int32} (O : OK X cL_law 8 RL wB room_1 cI cZ cQ) (S : SX X bS L xs) (E : ∀ {pc : Nat} {ws : List va_W} {lv : List (Nat × Value)}, decode cL_law pc = .ok (.ireturn, 1) → BK X 8 177 15831 pc ws lv [.int 1]) {h_t h_w h_b h_l h_H h_k0 h_k1 h_k2 h_k3 h_k4 h_k5 h_k6 h_k7 h_x h_T h_L h_P h_C h_M h_Q h_d h_F h_G h_r h_n h_m : Nat → Nat} (rec18 : Pk → Pk → Pk → Pk → Pk → Pk → Pk → Pk → Pk → Pk → Pk → Pk → Pk → Pk → Pk → Pk → Pk → Pk → Pk → Pk → Pk → Pk → Pk → Pk → Pk → Pk → Int32 → Option Int32) (hrec18 : ∀ (w_t : Pk) (w_w : Pk) (w_b : Pk) (w_l : Pk) (w_H : Pk) (w_k0 : Pk) (w_k1 : Pk) (w_k2 : Pk) (w_k3 : Pk) (w_k4 : Pk) (w_k5 : Pk) (w_k6 : Pk) (w_k7 : Pk) (w_x : Pk) (w_T : Pk) (w_L : Pk) (w_P : Pk) (w_C : Pk) (w_M : Pk) (w_Q : Pk) (w_d : Pk) (w_F : Pk) (w_G : Pk) (w_r : Pk) (w_n : Pk) (w_m : Pk) (y3 : Int32), rec18 w_t w_w w_b w_l w_H w_k0 w_k1 w_k2 w_k3 w_k4 w_k5 w_k6 w_k7 w_x w_T w_L w_P w_C w_M w_Q w_d w_F w_G w_r w_n w_m y3 = some 1 → BK X 8 177 15831 18 ([nX9 cI cZ cQ h_t (h_w 0) (h_b 0) (h_l 0) (h_H 0) (h_x 0) (h_T 0) (h_C 0) (h_d 0) (h_F 0) (h_r 0) (h_n 0) w_t, nX8 cI cZ cQ h_w w_w, nX8 cI cZ cQ h_b w_b, nX8 cI cZ cQ h_l w_l, nX2 cI cZ cQ h_H (hkf h_k0 h_k1 h_k2 h_k3 h_k4 h_k5 h_k6 h_k7) w_H, nX8 cI cZ cQ h_k0 w_k0, nX8 cI cZ cQ h_k1 w_k1, nX8 cI cZ cQ h_k2 w_k2, nX8 cI cZ cQ h_k3 w_k3, nX8 cI cZ cQ h_k4 w_k4, nX8 cI cZ cQ h_k5 w_k5, nX8 cI cZ cQ h_k6 w_k6, nX8 cI cZ cQ h_k7 w_k7, nX7 cI cZ cQ h_x w_x, nX6 cI cZ cQ h_T (h_w 0) (h_L 0) (h_P 0) w_T, nX4 cI cZ cQ h_L (h_w 0) w_L, nX4 cI cZ cQ h_P (h_w 0) w_P, nX6 cI cZ cQ h_C (h_w 0) (h_M 0) (h_Q 0) w_C, nX4 cI cZ cQ h_M (h_w 0) w_M, nX4 cI cZ cQ h_Q (h_w 0) w_Q, nX0 cI cZ cQ h_d (h_w 0) (h_T 0) w_d, nX1 cI cZ cQ h_F (h_G 0) w_F, nX4 cI cZ cQ h_G (h_w 0) w_G, nX5 cI cZ cQ h_r (h_w 0) w_r, nX3 cI cZ cQ h_n (h_w 0) w_n, nX10 cI cZ cQ h_m w_m]) [(0, .ref bS), (1, .ref (h_t 0)), (2, .ref (h_m 0)), (3, .int y3)] []) : ∀ (w_t : Pk) (w_w : Pk) (w_b : Pk) (w_l : Pk) (w_H : Pk) (w_k0 : Pk) (w_k1 : Pk) (w_k2 : Pk) (w_k3 : Pk) (w_k4 : Pk) (w_k5 : Pk) (w_k6 : Pk) (w_k7 : Pk) (w_x : Pk) (w_T : Pk) (w_L : Pk) (w_P : Pk) (w_C : Pk) (w_M : Pk) (w_Q : Pk) (w_d : Pk) (w_F : Pk) (w_G : Pk) (w_r : Pk) (w_n : Pk) (w_m : Pk) (y3 : Int32), fL_b565 L xs rec18 w_t w_w w_b w_l w_H w_k0 w_k1 w_k2 w_k3 w_k4 w_k5 w_k6 w_k7 w_x w_T w_L w_P w_C w_M w_Q w_d w_F w_G w_r w_n w_m y3 = some 1 → BK X 8 177 15831 565 ([nX9 cI cZ cQ h_t (h_w 0) (h_b 0) (h_l 0) (h_H 0) (h_x 0) (h_T 0) (h_C 0) (h_d 0) (h_F 0) (h_r 0) (h_n 0) w_t, nX8 cI cZ cQ h_w w_w, nX8 cI cZ cQ h_b w_b, nX8 cI cZ cQ h_l w_l, nX2 cI cZ cQ h_H (hkf h_k0 h_k1 h_k2 h_k3 h_k4 h_k5 h_k6 h_k7) w_H, nX8 cI cZ cQ h_k0 w_k0, nX8 cI cZ cQ h_k1 w_k1, nX8 cI cZ cQ h_k2 w_k2, nX8 cI cZ cQ h_k3 w_k3, nX8 cI cZ cQ h_k4 w_k4, nX8 cI cZ cQ h_k5 w_k5, nX8 cI cZ cQ h_k6 w_k6, nX8 cI cZ cQ h_k7 w_k7, nX7 cI cZ cQ h_x w_x, nX6 cI cZ cQ h_T (h_w 0) (h_L 0) (h_P 0) w_T, nX4 cI cZ cQ h_L (h_w 0) w_L, nX4 cI cZ cQ h_P (h_w 0) w_P, nX6 cI cZ cQ h_C (h_w 0) (h_M 0) (h_Q 0) w_C, nX4 cI cZ cQ h_M (h_w 0) w_M, nX4 cI cZ cQ h_Q (h_w 0) w_Q, nX0 cI cZ cQ h_d (h_w 0) (h_T 0) w_d, nX1 cI cZ cQ h_F (h_G 0) w_F, nX4 cI cZ cQ h_G (h_w 0) w_G, nX5 cI cZ cQ h_r (h_w 0) w_r, nX3 cI cZ cQ h_n (h_w 0) w_n, nX10 cI cZ cQ h_m w_m]) [(0, .ref bS), (1, .ref (h_t 0)), (2, .ref (h_m 0)), (3, .int y3)] [] := by
  intro w_t w_w w_b w_l w_H w_k0 w_k1 w_k2 w_k3 w_k4 w_k5 w_k6 w_k7 w_x w_T w_L w_P w_C w_M w_Q w_d w_F w_G w_r w_n w_m y3 hf
  unfold fL_b565 at hf
  refine r_ald_n O 566 rfl 1 rfl dL_law_565 ?_
  refine r_ald_n O 567 rfl 0 rfl dL_law_566 ?_
  refine r_ild_n O 568 rfl 3 rfl dL_law_567 ?_
  refine r_ic O 569 rfl 1 (by decide) dL_law_568 ?_
  refine r_iadd O 570 rfl dL_law_569 ?_
  obtain ⟨x570, ex570, hin570, hf⟩ := qld_some hf
  refine r_sld O S 571 rfl hin570 dL_law_570 ?_
  rw [← ex570]
  obtain ⟨x571, p571_x, hq571, hf⟩ := qb2_some hf
  refine k_VI O 574 rfl (zX9_appendText (l := xl X) (D := xD X) (cI := cI) (cZ := cZ) (cQ := cQ) (h_t := h_t) (r_w := (h_w 0)) (r_b := (h_b 0)) (r_l := (h_l 0)) (r_H := (h_H 0)) (h_x := h_x) (r_T := (h_T 0)) (r_C := (h_C 0)) (r_d := (h_d 0)) (r_F := (h_F 0)) (r_r := (h_r 0)) (r_n := (h_n 0)) hq571) (gV mlL_62 mvX9_appendText izX9) rfl rfl rfl hdX9_appendText ⟨Nat.le_of_ble_eq_true rfl, Nat.le_of_ble_eq_true rfl⟩ rfl 0 rfl rfl rfl rfl (Nat.le_of_ble_eq_true rfl) ⟨Nat.le_of_ble_eq_true rfl, Nat.le_of_ble_eq_true rfl⟩ [0, 13] rfl rfl rfl ([nX9 cI cZ cQ h_t (h_w 0) (h_b 0) (h_l 0) (h_H 0) (h_x 0) (h_T 0) (h_C 0) (h_d 0) (h_F 0) (h_r 0) (h_n 0) w_t, nX8 cI cZ cQ h_w w_w, nX8 cI cZ cQ h_b w_b, nX8 cI cZ cQ h_l w_l, nX2 cI cZ cQ h_H (hkf h_k0 h_k1 h_k2 h_k3 h_k4 h_k5 h_k6 h_k7) w_H, nX8 cI cZ cQ h_k0 w_k0, nX8 cI cZ cQ h_k1 w_k1, nX8 cI cZ cQ h_k2 w_k2, nX8 cI cZ cQ h_k3 w_k3, nX8 cI cZ cQ h_k4 w_k4, nX8 cI cZ cQ h_k5 w_k5, nX8 cI cZ cQ h_k6 w_k6, nX8 cI cZ cQ h_k7 w_k7, nX7 cI cZ cQ h_x p571_x, nX6 cI cZ cQ h_T (h_w 0) (h_L 0) (h_P 0) w_T, nX4 cI cZ cQ h_L (h_w 0) w_L, nX4 cI cZ cQ h_P (h_w 0) w_P, nX6 cI cZ cQ h_C (h_w 0) (h_M 0) (h_Q 0) w_C, nX4 cI cZ cQ h_M (h_w 0) w_M, nX4 cI cZ cQ h_Q (h_w 0) w_Q, nX0 cI cZ cQ h_d (h_w 0) (h_T 0) w_d, nX1 cI cZ cQ h_F (h_G 0) w_F, nX4 cI cZ cQ h_G (h_w 0) w_G, nX5 cI cZ cQ h_r (h_w 0) w_r, nX3 cI cZ cQ h_n (h_w 0) w_n, nX10 cI cZ cQ h_m w_m]) rfl dL_law_571 ?_
  refine r_ald_n O 575 rfl 2 rfl dL_law_574 ?_
  refine r_ald_n O 576 rfl 0 rfl dL_law_575 ?_
  refine r_ild_n O 577 rfl 3 rfl dL_law_576 ?_
  refine r_ic O 578 rfl 1 (by decide) dL_law_577 ?_
  refine r_iadd O 579 rfl dL_law_578 ?_
  obtain ⟨x579, ex579, hin579, hf⟩ := qld_some hf
  refine r_sld O S 580 rfl hin579 dL_law_579 ?_
  rw [← ex579]
  obtain ⟨x580, p580_m, hq580, hf⟩ := qb2_some hf
  refine k_VI O 583 rfl (zX10_appendText (l := xl X) (D := xD X) (cI := cI) (cZ := cZ) (cQ := cQ) (h_t := h_m) hq580) (gV mlL_65 mvX10_appendText izX10) rfl rfl rfl hdX10_appendText ⟨Nat.le_of_ble_eq_true rfl, Nat.le_of_ble_eq_true rfl⟩ rfl 25 rfl rfl rfl rfl (Nat.le_of_ble_eq_true rfl) ⟨Nat.le_of_ble_eq_true rfl, Nat.le_of_ble_eq_true rfl⟩ [25] rfl rfl rfl ([nX9 cI cZ cQ h_t (h_w 0) (h_b 0) (h_l 0) (h_H 0) (h_x 0) (h_T 0) (h_C 0) (h_d 0) (h_F 0) (h_r 0) (h_n 0) w_t, nX8 cI cZ cQ h_w w_w, nX8 cI cZ cQ h_b w_b, nX8 cI cZ cQ h_l w_l, nX2 cI cZ cQ h_H (hkf h_k0 h_k1 h_k2 h_k3 h_k4 h_k5 h_k6 h_k7) w_H, nX8 cI cZ cQ h_k0 w_k0, nX8 cI cZ cQ h_k1 w_k1, nX8 cI cZ cQ h_k2 w_k2, nX8 cI cZ cQ h_k3 w_k3, nX8 cI cZ cQ h_k4 w_k4, nX8 cI cZ cQ h_k5 w_k5, nX8 cI cZ cQ h_k6 w_k6, nX8 cI cZ cQ h_k7 w_k7, nX7 cI cZ cQ h_x p571_x, nX6 cI cZ cQ h_T (h_w 0) (h_L 0) (h_P 0) w_T, nX4 cI cZ cQ h_L (h_w 0) w_L, nX4 cI cZ cQ h_P (h_w 0) w_P, nX6 cI cZ cQ h_C (h_w 0) (h_M 0) (h_Q 0) w_C, nX4 cI cZ cQ h_M (h_w 0) w_M, nX4 cI cZ cQ h_Q (h_w 0) w_Q, nX0 cI cZ cQ h_d (h_w 0) (h_T 0) w_d, nX1 cI cZ cQ h_F (h_G 0) w_F, nX4 cI cZ cQ h_G (h_w 0) w_G, nX5 cI cZ cQ h_r (h_w 0) w_r, nX3 cI cZ cQ h_n (h_w 0) w_n, nX10 cI cZ cQ h_m p580_m]) rfl dL_law_580 ?_
  refine r_icmp_eq O 586 rfl 1795 dL_law_583 (by decide) (fun hc583 => ?_) (fun hc583 => ?_)
  · rw [if_pos hc583] at hf
    exact lwB1795 O S E rec18 hrec18 _ _ _ _ _ _ _ _ _ _ _ _ _ _ _ _ _ _ _ _ _ _ _ _ _ _ _ hf
  · rw [if_neg hc583] at hf
    refine r_ic O 587 rfl 0 (by decide) dL_law_586 ?_
    exact absurd (qe1 hf) (by decide)
set_option maxHeartbeats 40000000 in
set_option maxRecDepth 100000 in
theorem lwB1593 {X : Cx} {cI cZ cQ : ClassId} {bS L : Nat} {xs : Nat → Int32} (O : OK X cL_law 8 RL wB room_1 cI cZ cQ) (S : SX X bS L xs) (E : ∀ {pc : Nat} {ws : List va_W} {lv : List (Nat × Value)}, decode cL_law pc = .ok (.ireturn, 1) → BK X 8 177 15831 pc ws lv [.int 1]) {h_t h_w h_b h_l h_H h_k0 h_k1 h_k2 h_k3 h_k4 h_k5 h_k6 h_k7 h_x h_T h_L h_P h_C h_M h_Q h_d h_F h_G h_r h_n h_m : Nat → Nat} (rec18 : Pk → Pk → Pk → Pk → Pk → Pk → Pk → Pk → Pk → Pk → Pk → Pk → Pk → Pk → Pk → Pk → Pk → Pk → Pk → Pk → Pk → Pk → Pk → Pk → Pk → Pk → Int32 → Option Int32) (hrec18 : ∀ (w_t : Pk) (w_w : Pk) (w_b : Pk) (w_l : Pk) (w_H : Pk) (w_k0 : Pk) (w_k1 : Pk) (w_k2 : Pk) (w_k3 : Pk) (w_k4 : Pk) (w_k5 : Pk) (w_k6 : Pk) (w_k7 : Pk) (w_x : Pk) (w_T : Pk) (w_L : Pk) (w_P : Pk) (w_C : Pk) (w_M : Pk) (w_Q : Pk) (w_d : Pk) (w_F : Pk) (w_G : Pk) (w_r : Pk) (w_n : Pk) (w_m : Pk) (y3 : Int32), rec18 w_t w_w w_b w_l w_H w_k0 w_k1 w_k2 w_k3 w_k4 w_k5 w_k6 w_k7 w_x w_T w_L w_P w_C w_M w_Q w_d w_F w_G w_r w_n w_m y3 = some 1 → BK X 8 177 15831 18 ([nX9 cI cZ cQ h_t (h_w 0) (h_b 0) (h_l 0) (h_H 0) (h_x 0) (h_T 0) (h_C 0) (h_d 0) (h_F 0) (h_r 0) (h_n 0) w_t, nX8 cI cZ cQ h_w w_w, nX8 cI cZ cQ h_b w_b, nX8 cI cZ cQ h_l w_l, nX2 cI cZ cQ h_H (hkf h_k0 h_k1 h_k2 h_k3 h_k4 h_k5 h_k6 h_k7) w_H, nX8 cI cZ cQ h_k0 w_k0, nX8 cI cZ cQ h_k1 w_k1, nX8 cI cZ cQ h_k2 w_k2, nX8 cI cZ cQ h_k3 w_k3, nX8 cI cZ cQ h_k4 w_k4, nX8 cI cZ cQ h_k5 w_k5, nX8 cI cZ cQ h_k6 w_k6, nX8 cI cZ cQ h_k7 w_k7, nX7 cI cZ cQ h_x w_x, nX6 cI cZ cQ h_T (h_w 0) (h_L 0) (h_P 0) w_T, nX4 cI cZ cQ h_L (h_w 0) w_L, nX4 cI cZ cQ h_P (h_w 0) w_P, nX6 cI cZ cQ h_C (h_w 0) (h_M 0) (h_Q 0) w_C, nX4 cI cZ cQ h_M (h_w 0) w_M, nX4 cI cZ cQ h_Q (h_w 0) w_Q, nX0 cI cZ cQ h_d (h_w 0) (h_T 0) w_d, nX1 cI cZ cQ h_F (h_G 0) w_F, nX4 cI cZ cQ h_G (h_w 0) w_G, nX5 cI cZ cQ h_r (h_w 0) w_r, nX3 cI cZ cQ h_n (h_w 0) w_n, nX10 cI cZ cQ h_m w_m]) [(0, .ref bS), (1, .ref (h_t 0)), (2, .ref (h_m 0)), (3, .int y3)] []) : ∀ (w_t : Pk) (w_w : Pk) (w_b : Pk) (w_l : Pk) (w_H : Pk) (w_k0 : Pk) (w_k1 : Pk) (w_k2 : Pk) (w_k3 : Pk) (w_k4 : Pk) (w_k5 : Pk) (w_k6 : Pk) (w_k7 : Pk) (w_x : Pk) (w_T : Pk) (w_L : Pk) (w_P : Pk) (w_C : Pk) (w_M : Pk) (w_Q : Pk) (w_d : Pk) (w_F : Pk) (w_G : Pk) (w_r : Pk) (w_n : Pk) (w_m : Pk) (y3 : Int32), fL_b1593 L xs rec18 w_t w_w w_b w_l w_H w_k0 w_k1 w_k2 w_k3 w_k4 w_k5 w_k6 w_k7 w_x w_T w_L w_P w_C w_M w_Q w_d w_F w_G w_r w_n w_m y3 = some 1 → BK X 8 177 15831 1593 ([nX9 cI cZ cQ h_t (h_w 0) (h_b 0) (h_l 0) (h_H 0) (h_x 0) (h_T 0) (h_C 0) (h_d 0) (h_F 0) (h_r 0) (h_n 0) w_t, nX8 cI cZ cQ h_w w_w, nX8 cI cZ cQ h_b w_b, nX8 cI cZ cQ h_l w_l, nX2 cI cZ cQ h_H (hkf h_k0 h_k1 h_k2 h_k3 h_k4 h_k5 h_k6 h_k7) w_H, nX8 cI cZ cQ h_k0 w_k0, nX8 cI cZ cQ h_k1 w_k1, nX8 cI cZ cQ h_k2 w_k2, nX8 cI cZ cQ h_k3 w_k3, nX8 cI cZ cQ h_k4 w_k4, nX8 cI cZ cQ h_k5 w_k5, nX8 cI cZ cQ h_k6 w_k6, nX8 cI cZ cQ h_k7 w_k7, nX7 cI cZ cQ h_x w_x, nX6 cI cZ cQ h_T (h_w 0) (h_L 0) (h_P 0) w_T, nX4 cI cZ cQ h_L (h_w 0) w_L, nX4 cI cZ cQ h_P (h_w 0) w_P, nX6 cI cZ cQ h_C (h_w 0) (h_M 0) (h_Q 0) w_C, nX4 cI cZ cQ h_M (h_w 0) w_M, nX4 cI cZ cQ h_Q (h_w 0) w_Q, nX0 cI cZ cQ h_d (h_w 0) (h_T 0) w_d, nX1 cI cZ cQ h_F (h_G 0) w_F, nX4 cI cZ cQ h_G (h_w 0) w_G, nX5 cI cZ cQ h_r (h_w 0) w_r, nX3 cI cZ cQ h_n (h_w 0) w_n, nX10 cI cZ cQ h_m w_m]) [(0, .ref bS), (1, .ref (h_t 0)), (2, .ref (h_m 0)), (3, .int y3)] [] := by
  intro w_t w_w w_b w_l w_H w_k0 w_k1 w_k2 w_k3 w_k4 w_k5 w_k6 w_k7 w_x w_T w_L w_P w_C w_M w_Q w_d w_F w_G w_r w_n w_m y3 hf
  unfold fL_b1593 at hf
  refine r_ald_n O 1594 rfl 1 rfl dL_law_1593 ?_
  refine r_ald_n O 1595 rfl 0 rfl dL_law_1594 ?_
  refine r_ild_n O 1596 rfl 3 rfl dL_law_1595 ?_
  refine r_ic O 1597 rfl 1 (by decide) dL_law_1596 ?_
  refine r_iadd O 1598 rfl dL_law_1597 ?_
  obtain ⟨x1598, ex1598, hin1598, hf⟩ := qld_some hf
  refine r_sld O S 1599 rfl hin1598 dL_law_1598 ?_
  rw [← ex1598]
  refine r_ald_n O 1600 rfl 0 rfl dL_law_1599 ?_
  refine r_ild_n O 1601 rfl 3 rfl dL_law_1600 ?_
  refine r_ic O 1602 rfl 2 (by decide) dL_law_1601 ?_
  refine r_iadd O 1603 rfl dL_law_1602 ?_
  obtain ⟨x1603, ex1603, hin1603, hf⟩ := qld_some hf
  refine r_sld O S 1604 rfl hin1603 dL_law_1603 ?_
  rw [← ex1603]
  refine r_ald_n O 1605 rfl 0 rfl dL_law_1604 ?_
  refine r_ild_n O 1606 rfl 3 rfl dL_law_1605 ?_
  refine r_ic O 1607 rfl 3 (by decide) dL_law_1606 ?_
  refine r_iadd O 1608 rfl dL_law_1607 ?_
  obtain ⟨x1608, ex1608, hin1608, hf⟩ := qld_some hf
  refine r_sld O S 1609 rfl hin1608 dL_law_1608 ?_
  rw [← ex1608]
  refine r_ald_n O 1610 rfl 0 rfl dL_law_1609 ?_
  refine r_ild_n O 1611 rfl 3 rfl dL_law_1610 ?_
  refine r_ic O 1612 rfl 4 (by decide) dL_law_1611 ?_
  refine r_iadd O 1613 rfl dL_law_1612 ?_
  obtain ⟨x1613, ex1613, hin1613, hf⟩ := qld_some hf
  refine r_sld O S 1614 rfl hin1613 dL_law_1613 ?_
  rw [← ex1613]
  obtain ⟨x1614, p1614_r, hq1614, hf⟩ := qb2_some hf
  refine k_VI O 1617 rfl (zX9_wander (l := xl X) (D := xD X) (cI := cI) (cZ := cZ) (cQ := cQ) (h_t := h_t) (h_w := h_w) (r_b := (h_b 0)) (r_l := (h_l 0)) (r_H := (h_H 0)) (r_x := (h_x 0)) (r_T := (h_T 0)) (r_C := (h_C 0)) (r_d := (h_d 0)) (r_F := (h_F 0)) (h_r := h_r) (r_n := (h_n 0)) hq1614) (gV mlL_186 mvX9_wander izX9) rfl rfl rfl hdX9_wander ⟨Nat.le_of_ble_eq_true rfl, Nat.le_of_ble_eq_true rfl⟩ rfl 0 rfl rfl rfl rfl (Nat.le_of_ble_eq_true rfl) ⟨Nat.le_of_ble_eq_true rfl, Nat.le_of_ble_eq_true rfl⟩ [0, 1, 23] rfl rfl rfl ([nX9 cI cZ cQ h_t (h_w 0) (h_b 0) (h_l 0) (h_H 0) (h_x 0) (h_T 0) (h_C 0) (h_d 0) (h_F 0) (h_r 0) (h_n 0) w_t, nX8 cI cZ cQ h_w w_w, nX8 cI cZ cQ h_b w_b, nX8 cI cZ cQ h_l w_l, nX2 cI cZ cQ h_H (hkf h_k0 h_k1 h_k2 h_k3 h_k4 h_k5 h_k6 h_k7) w_H, nX8 cI cZ cQ h_k0 w_k0, nX8 cI cZ cQ h_k1 w_k1, nX8 cI cZ cQ h_k2 w_k2, nX8 cI cZ cQ h_k3 w_k3, nX8 cI cZ cQ h_k4 w_k4, nX8 cI cZ cQ h_k5 w_k5, nX8 cI cZ cQ h_k6 w_k6, nX8 cI cZ cQ h_k7 w_k7, nX7 cI cZ cQ h_x w_x, nX6 cI cZ cQ h_T (h_w 0) (h_L 0) (h_P 0) w_T, nX4 cI cZ cQ h_L (h_w 0) w_L, nX4 cI cZ cQ h_P (h_w 0) w_P, nX6 cI cZ cQ h_C (h_w 0) (h_M 0) (h_Q 0) w_C, nX4 cI cZ cQ h_M (h_w 0) w_M, nX4 cI cZ cQ h_Q (h_w 0) w_Q, nX0 cI cZ cQ h_d (h_w 0) (h_T 0) w_d, nX1 cI cZ cQ h_F (h_G 0) w_F, nX4 cI cZ cQ h_G (h_w 0) w_G, nX5 cI cZ cQ h_r (h_w 0) p1614_r, nX3 cI cZ cQ h_n (h_w 0) w_n, nX10 cI cZ cQ h_m w_m]) rfl dL_law_1614 ?_
  refine r_ald_n O 1618 rfl 2 rfl dL_law_1617 ?_
  refine r_ald_n O 1619 rfl 0 rfl dL_law_1618 ?_
  refine r_ild_n O 1620 rfl 3 rfl dL_law_1619 ?_
  refine r_ic O 1621 rfl 1 (by decide) dL_law_1620 ?_
  refine r_iadd O 1622 rfl dL_law_1621 ?_
  obtain ⟨x1622, ex1622, hin1622, hf⟩ := qld_some hf
  refine r_sld O S 1623 rfl hin1622 dL_law_1622 ?_
  rw [← ex1622]
  refine r_ald_n O 1624 rfl 0 rfl dL_law_1623 ?_
  refine r_ild_n O 1625 rfl 3 rfl dL_law_1624 ?_
  refine r_ic O 1626 rfl 2 (by decide) dL_law_1625 ?_
  refine r_iadd O 1627 rfl dL_law_1626 ?_
  obtain ⟨x1627, ex1627, hin1627, hf⟩ := qld_some hf
  refine r_sld O S 1628 rfl hin1627 dL_law_1627 ?_
  rw [← ex1627]
  refine r_ald_n O 1629 rfl 0 rfl dL_law_1628 ?_
  refine r_ild_n O 1630 rfl 3 rfl dL_law_1629 ?_
  refine r_ic O 1631 rfl 3 (by decide) dL_law_1630 ?_
  refine r_iadd O 1632 rfl dL_law_1631 ?_
  obtain ⟨x1632, ex1632, hin1632, hf⟩ := qld_some hf
  refine r_sld O S 1633 rfl hin1632 dL_law_1632 ?_
  rw [← ex1632]
  refine r_ald_n O 1634 rfl 0 rfl dL_law_1633 ?_
  refine r_ild_n O 1635 rfl 3 rfl dL_law_1634 ?_
  refine r_ic O 1636 rfl 4 (by decide) dL_law_1635 ?_
  refine r_iadd O 1637 rfl dL_law_1636 ?_
  obtain ⟨x1637, ex1637, hin1637, hf⟩ := qld_some hf
  refine r_sld O S 1638 rfl hin1637 dL_law_1637 ?_
  rw [← ex1637]
  obtain ⟨x1638, p1638_m, hq1638, hf⟩ := qb2_some hf
  refine k_VI O 1641 rfl (zX10_wander (l := xl X) (D := xD X) (cI := cI) (cZ := cZ) (cQ := cQ) (h_t := h_m) hq1638) (gV mlL_189 mvX10_wander izX10) rfl rfl rfl hdX10_wander ⟨Nat.le_of_ble_eq_true rfl, Nat.le_of_ble_eq_true rfl⟩ rfl 25 rfl rfl rfl rfl (Nat.le_of_ble_eq_true rfl) ⟨Nat.le_of_ble_eq_true rfl, Nat.le_of_ble_eq_true rfl⟩ [25] rfl rfl rfl ([nX9 cI cZ cQ h_t (h_w 0) (h_b 0) (h_l 0) (h_H 0) (h_x 0) (h_T 0) (h_C 0) (h_d 0) (h_F 0) (h_r 0) (h_n 0) w_t, nX8 cI cZ cQ h_w w_w, nX8 cI cZ cQ h_b w_b, nX8 cI cZ cQ h_l w_l, nX2 cI cZ cQ h_H (hkf h_k0 h_k1 h_k2 h_k3 h_k4 h_k5 h_k6 h_k7) w_H, nX8 cI cZ cQ h_k0 w_k0, nX8 cI cZ cQ h_k1 w_k1, nX8 cI cZ cQ h_k2 w_k2, nX8 cI cZ cQ h_k3 w_k3, nX8 cI cZ cQ h_k4 w_k4, nX8 cI cZ cQ h_k5 w_k5, nX8 cI cZ cQ h_k6 w_k6, nX8 cI cZ cQ h_k7 w_k7, nX7 cI cZ cQ h_x w_x, nX6 cI cZ cQ h_T (h_w 0) (h_L 0) (h_P 0) w_T, nX4 cI cZ cQ h_L (h_w 0) w_L, nX4 cI cZ cQ h_P (h_w 0) w_P, nX6 cI cZ cQ h_C (h_w 0) (h_M 0) (h_Q 0) w_C, nX4 cI cZ cQ h_M (h_w 0) w_M, nX4 cI cZ cQ h_Q (h_w 0) w_Q, nX0 cI cZ cQ h_d (h_w 0) (h_T 0) w_d, nX1 cI cZ cQ h_F (h_G 0) w_F, nX4 cI cZ cQ h_G (h_w 0) w_G, nX5 cI cZ cQ h_r (h_w 0) p1614_r, nX3 cI cZ cQ h_n (h_w 0) w_n, nX10 cI cZ cQ h_m p1638_m]) rfl dL_law_1638 ?_
  refine r_icmp_eq O 1644 rfl 1795 dL_law_1641 (by decide) (fun hc1641 => ?_) (fun hc1641 => ?_)
  · rw [if_pos hc1641] at hf
    exact lwB1795 O S E rec18 hrec18 _ _ _ _ _ _ _ _ _ _ _ _ _ _ _ _ _ _ _ _ _ _ _ _ _ _ _ hf
  · rw [if_neg hc1641] at hf
    refine r_ic O 1645 rfl 0 (by decide) dL_law_1644 ?_
    exact absurd (qe1 hf) (by decide)
set_option maxHeartbeats 40000000 in
set_option maxRecDepth 100000 in
theorem lwB315 {X : Cx} {cI cZ cQ : ClassId} {bS L : Nat} {xs : Nat → Int32} (O : OK X cL_law 8 RL wB room_1 cI cZ cQ) (S : SX X bS L xs) (E : ∀ {pc : Nat} {ws : List va_W} {lv : List (Nat × Value)}, decode cL_law pc = .ok (.ireturn, 1) → BK X 8 177 15831 pc ws lv [.int 1]) {h_t h_w h_b h_l h_H h_k0 h_k1 h_k2 h_k3 h_k4 h_k5 h_k6 h_k7 h_x h_T h_L h_P h_C h_M h_Q h_d h_F h_G h_r h_n h_m : Nat → Nat} (rec18 : Pk → Pk → Pk → Pk → Pk → Pk → Pk → Pk → Pk → Pk → Pk → Pk → Pk → Pk → Pk → Pk → Pk → Pk → Pk → Pk → Pk → Pk → Pk → Pk → Pk → Pk → Int32 → Option Int32) (hrec18 : ∀ (w_t : Pk) (w_w : Pk) (w_b : Pk) (w_l : Pk) (w_H : Pk) (w_k0 : Pk) (w_k1 : Pk) (w_k2 : Pk) (w_k3 : Pk) (w_k4 : Pk) (w_k5 : Pk) (w_k6 : Pk) (w_k7 : Pk) (w_x : Pk) (w_T : Pk) (w_L : Pk) (w_P : Pk) (w_C : Pk) (w_M : Pk) (w_Q : Pk) (w_d : Pk) (w_F : Pk) (w_G : Pk) (w_r : Pk) (w_n : Pk) (w_m : Pk) (y3 : Int32), rec18 w_t w_w w_b w_l w_H w_k0 w_k1 w_k2 w_k3 w_k4 w_k5 w_k6 w_k7 w_x w_T w_L w_P w_C w_M w_Q w_d w_F w_G w_r w_n w_m y3 = some 1 → BK X 8 177 15831 18 ([nX9 cI cZ cQ h_t (h_w 0) (h_b 0) (h_l 0) (h_H 0) (h_x 0) (h_T 0) (h_C 0) (h_d 0) (h_F 0) (h_r 0) (h_n 0) w_t, nX8 cI cZ cQ h_w w_w, nX8 cI cZ cQ h_b w_b, nX8 cI cZ cQ h_l w_l, nX2 cI cZ cQ h_H (hkf h_k0 h_k1 h_k2 h_k3 h_k4 h_k5 h_k6 h_k7) w_H, nX8 cI cZ cQ h_k0 w_k0, nX8 cI cZ cQ h_k1 w_k1, nX8 cI cZ cQ h_k2 w_k2, nX8 cI cZ cQ h_k3 w_k3, nX8 cI cZ cQ h_k4 w_k4, nX8 cI cZ cQ h_k5 w_k5, nX8 cI cZ cQ h_k6 w_k6, nX8 cI cZ cQ h_k7 w_k7, nX7 cI cZ cQ h_x w_x, nX6 cI cZ cQ h_T (h_w 0) (h_L 0) (h_P 0) w_T, nX4 cI cZ cQ h_L (h_w 0) w_L, nX4 cI cZ cQ h_P (h_w 0) w_P, nX6 cI cZ cQ h_C (h_w 0) (h_M 0) (h_Q 0) w_C, nX4 cI cZ cQ h_M (h_w 0) w_M, nX4 cI cZ cQ h_Q (h_w 0) w_Q, nX0 cI cZ cQ h_d (h_w 0) (h_T 0) w_d, nX1 cI cZ cQ h_F (h_G 0) w_F, nX4 cI cZ cQ h_G (h_w 0) w_G, nX5 cI cZ cQ h_r (h_w 0) w_r, nX3 cI cZ cQ h_n (h_w 0) w_n, nX10 cI cZ cQ h_m w_m]) [(0, .ref bS), (1, .ref (h_t 0)), (2, .ref (h_m 0)), (3, .int y3)] []) : ∀ (w_t : Pk) (w_w : Pk) (w_b : Pk) (w_l : Pk) (w_H : Pk) (w_k0 : Pk) (w_k1 : Pk) (w_k2 : Pk) (w_k3 : Pk) (w_k4 : Pk) (w_k5 : Pk) (w_k6 : Pk) (w_k7 : Pk) (w_x : Pk) (w_T : Pk) (w_L : Pk) (w_P : Pk) (w_C : Pk) (w_M : Pk) (w_Q : Pk) (w_d : Pk) (w_F : Pk) (w_G : Pk) (w_r : Pk) (w_n : Pk) (w_m : Pk) (y3 : Int32), fL_b315 L xs rec18 w_t w_w w_b w_l w_H w_k0 w_k1 w_k2 w_k3 w_k4 w_k5 w_k6 w_k7 w_x w_T w_L w_P w_C w_M w_Q w_d w_F w_G w_r w_n w_m y3 = some 1 → BK X 8 177 15831 315 ([nX9 cI cZ cQ h_t (h_w 0) (h_b 0) (h_l 0) (h_H 0) (h_x 0) (h_T 0) (h_C 0) (h_d 0) (h_F 0) (h_r 0) (h_n 0) w_t, nX8 cI cZ cQ h_w w_w, nX8 cI cZ cQ h_b w_b, nX8 cI cZ cQ h_l w_l, nX2 cI cZ cQ h_H (hkf h_k0 h_k1 h_k2 h_k3 h_k4 h_k5 h_k6 h_k7) w_H, nX8 cI cZ cQ h_k0 w_k0, nX8 cI cZ cQ h_k1 w_k1, nX8 cI cZ cQ h_k2 w_k2, nX8 cI cZ cQ h_k3 w_k3, nX8 cI cZ cQ h_k4 w_k4, nX8 cI cZ cQ h_k5 w_k5, nX8 cI cZ cQ h_k6 w_k6, nX8 cI cZ cQ h_k7 w_k7, nX7 cI cZ cQ h_x w_x, nX6 cI cZ cQ h_T (h_w 0) (h_L 0) (h_P 0) w_T, nX4 cI cZ cQ h_L (h_w 0) w_L, nX4 cI cZ cQ h_P (h_w 0) w_P, nX6 cI cZ cQ h_C (h_w 0) (h_M 0) (h_Q 0) w_C, nX4 cI cZ cQ h_M (h_w 0) w_M, nX4 cI cZ cQ h_Q (h_w 0) w_Q, nX0 cI cZ cQ h_d (h_w 0) (h_T 0) w_d, nX1 cI cZ cQ h_F (h_G 0) w_F, nX4 cI cZ cQ h_G (h_w 0) w_G, nX5 cI cZ cQ h_r (h_w 0) w_r, nX3 cI cZ cQ h_n (h_w 0) w_n, nX10 cI cZ cQ h_m w_m]) [(0, .ref bS), (1, .ref (h_t 0)), (2, .ref (h_m 0)), (3, .int y3)] [] := by
  intro w_t w_w w_b w_l w_H w_k0 w_k1 w_k2 w_k3 w_k4 w_k5 w_k6 w_k7 w_x w_T w_L w_P w_C w_M w_Q w_d w_F w_G w_r w_n w_m y3 hf
  unfold fL_b315 at hf
  refine r_ald_n O 316 rfl 1 rfl dL_law_315 ?_
  refine r_ald_n O 317 rfl 0 rfl dL_law_316 ?_
  refine r_ild_n O 318 rfl 3 rfl dL_law_317 ?_
  refine r_ic O 319 rfl 1 (by decide) dL_law_318 ?_
  refine r_iadd O 320 rfl dL_law_319 ?_
  obtain ⟨x320, ex320, hin320, hf⟩ := qld_some hf
  refine r_sld O S 321 rfl hin320 dL_law_320 ?_
  rw [← ex320]
  obtain ⟨x321, p321_t, p321_w, p321_H, p321_k0, p321_k1, p321_k2, p321_k3, p321_k4, p321_k5, p321_k6, p321_k7, hq321, hf⟩ := qb12_some hf
  refine k_VI O 324 rfl (zX9_removeWall (l := xl X) (D := xD X) (cI := cI) (cZ := cZ) (cQ := cQ) (h_t := h_t) (h_w := h_w) (r_b := (h_b 0)) (r_l := (h_l 0)) (h_H := h_H) (h_k0 := h_k0) (h_k1 := h_k1) (h_k2 := h_k2) (h_k3 := h_k3) (h_k4 := h_k4) (h_k5 := h_k5) (h_k6 := h_k6) (h_k7 := h_k7) (r_x := (h_x 0)) (r_T := (h_T 0)) (r_C := (h_C 0)) (r_d := (h_d 0)) (r_F := (h_F 0)) (r_r := (h_r 0)) (r_n := (h_n 0)) hq321) (gV mlL_18 mvX9_removeWall izX9) rfl rfl rfl hdX9_removeWall ⟨Nat.le_of_ble_eq_true rfl, Nat.le_of_ble_eq_true rfl⟩ rfl 0 rfl rfl rfl rfl (Nat.le_of_ble_eq_true rfl) ⟨Nat.le_of_ble_eq_true rfl, Nat.le_of_ble_eq_true rfl⟩ [0, 1, 4, 5, 6, 7, 8, 9, 10, 11, 12] rfl rfl rfl ([nX9 cI cZ cQ h_t (h_w 0) (h_b 0) (h_l 0) (h_H 0) (h_x 0) (h_T 0) (h_C 0) (h_d 0) (h_F 0) (h_r 0) (h_n 0) p321_t, nX8 cI cZ cQ h_w p321_w, nX8 cI cZ cQ h_b w_b, nX8 cI cZ cQ h_l w_l, nX2 cI cZ cQ h_H (hkf h_k0 h_k1 h_k2 h_k3 h_k4 h_k5 h_k6 h_k7) p321_H, nX8 cI cZ cQ h_k0 p321_k0, nX8 cI cZ cQ h_k1 p321_k1, nX8 cI cZ cQ h_k2 p321_k2, nX8 cI cZ cQ h_k3 p321_k3, nX8 cI cZ cQ h_k4 p321_k4, nX8 cI cZ cQ h_k5 p321_k5, nX8 cI cZ cQ h_k6 p321_k6, nX8 cI cZ cQ h_k7 p321_k7, nX7 cI cZ cQ h_x w_x, nX6 cI cZ cQ h_T (h_w 0) (h_L 0) (h_P 0) w_T, nX4 cI cZ cQ h_L (h_w 0) w_L, nX4 cI cZ cQ h_P (h_w 0) w_P, nX6 cI cZ cQ h_C (h_w 0) (h_M 0) (h_Q 0) w_C, nX4 cI cZ cQ h_M (h_w 0) w_M, nX4 cI cZ cQ h_Q (h_w 0) w_Q, nX0 cI cZ cQ h_d (h_w 0) (h_T 0) w_d, nX1 cI cZ cQ h_F (h_G 0) w_F, nX4 cI cZ cQ h_G (h_w 0) w_G, nX5 cI cZ cQ h_r (h_w 0) w_r, nX3 cI cZ cQ h_n (h_w 0) w_n, nX10 cI cZ cQ h_m w_m]) rfl dL_law_321 ?_
  refine r_ald_n O 325 rfl 2 rfl dL_law_324 ?_
  refine r_ald_n O 326 rfl 0 rfl dL_law_325 ?_
  refine r_ild_n O 327 rfl 3 rfl dL_law_326 ?_
  refine r_ic O 328 rfl 1 (by decide) dL_law_327 ?_
  refine r_iadd O 329 rfl dL_law_328 ?_
  obtain ⟨x329, ex329, hin329, hf⟩ := qld_some hf
  refine r_sld O S 330 rfl hin329 dL_law_329 ?_
  rw [← ex329]
  obtain ⟨x330, p330_m, hq330, hf⟩ := qb2_some hf
  refine k_VI O 333 rfl (zX10_removeWall (l := xl X) (D := xD X) (cI := cI) (cZ := cZ) (cQ := cQ) (h_t := h_m) hq330) (gV mlL_22 mvX10_removeWall izX10) rfl rfl rfl hdX10_removeWall ⟨Nat.le_of_ble_eq_true rfl, Nat.le_of_ble_eq_true rfl⟩ rfl 25 rfl rfl rfl rfl (Nat.le_of_ble_eq_true rfl) ⟨Nat.le_of_ble_eq_true rfl, Nat.le_of_ble_eq_true rfl⟩ [25] rfl rfl rfl ([nX9 cI cZ cQ h_t (h_w 0) (h_b 0) (h_l 0) (h_H 0) (h_x 0) (h_T 0) (h_C 0) (h_d 0) (h_F 0) (h_r 0) (h_n 0) p321_t, nX8 cI cZ cQ h_w p321_w, nX8 cI cZ cQ h_b w_b, nX8 cI cZ cQ h_l w_l, nX2 cI cZ cQ h_H (hkf h_k0 h_k1 h_k2 h_k3 h_k4 h_k5 h_k6 h_k7) p321_H, nX8 cI cZ cQ h_k0 p321_k0, nX8 cI cZ cQ h_k1 p321_k1, nX8 cI cZ cQ h_k2 p321_k2, nX8 cI cZ cQ h_k3 p321_k3, nX8 cI cZ cQ h_k4 p321_k4, nX8 cI cZ cQ h_k5 p321_k5, nX8 cI cZ cQ h_k6 p321_k6, nX8 cI cZ cQ h_k7 p321_k7, nX7 cI cZ cQ h_x w_x, nX6 cI cZ cQ h_T (h_w 0) (h_L 0) (h_P 0) w_T, nX4 cI cZ cQ h_L (h_w 0) w_L, nX4 cI cZ cQ h_P (h_w 0) w_P, nX6 cI cZ cQ h_C (h_w 0) (h_M 0) (h_Q 0) w_C, nX4 cI cZ cQ h_M (h_w 0) w_M, nX4 cI cZ cQ h_Q (h_w 0) w_Q, nX0 cI cZ cQ h_d (h_w 0) (h_T 0) w_d, nX1 cI cZ cQ h_F (h_G 0) w_F, nX4 cI cZ cQ h_G (h_w 0) w_G, nX5 cI cZ cQ h_r (h_w 0) w_r, nX3 cI cZ cQ h_n (h_w 0) w_n, nX10 cI cZ cQ h_m p330_m]) rfl dL_law_330 ?_
  refine r_icmp_eq O 336 rfl 1795 dL_law_333 (by decide) (fun hc333 => ?_) (fun hc333 => ?_)
  · rw [if_pos hc333] at hf
    exact lwB1795 O S E rec18 hrec18 _ _ _ _ _ _ _ _ _ _ _ _ _ _ _ _ _ _ _ _ _ _ _ _ _ _ _ hf
  · rw [if_neg hc333] at hf
    refine r_ic O 337 rfl 0 (by decide) dL_law_336 ?_
    exact absurd (qe1 hf) (by decide)
set_option maxHeartbeats 40000000 in
set_option maxRecDepth 100000 in
theorem lwB1723 {X : Cx} {cI cZ cQ : ClassId} {bS L : Nat} {xs : Nat → Int32} (O : OK X cL_law 8 RL wB room_1 cI cZ cQ) (S : SX X bS L xs) (E : ∀ {pc : Nat} {ws : List va_W} {lv : List (Nat × Value)}, decode cL_law pc = .ok (.ireturn, 1) → BK X 8 177 15831 pc ws lv [.int 1]) {h_t h_w h_b h_l h_H h_k0 h_k1 h_k2 h_k3 h_k4 h_k5 h_k6 h_k7 h_x h_T h_L h_P h_C h_M h_Q h_d h_F h_G h_r h_n h_m : Nat → Nat} (rec18 : Pk → Pk → Pk → Pk → Pk → Pk → Pk → Pk → Pk → Pk → Pk → Pk → Pk → Pk → Pk → Pk → Pk → Pk → Pk → Pk → Pk → Pk → Pk → Pk → Pk → Pk → Int32 → Option Int32) (hrec18 : ∀ (w_t : Pk) (w_w : Pk) (w_b : Pk) (w_l : Pk) (w_H : Pk) (w_k0 : Pk) (w_k1 : Pk) (w_k2 : Pk) (w_k3 : Pk) (w_k4 : Pk) (w_k5 : Pk) (w_k6 : Pk) (w_k7 : Pk) (w_x : Pk) (w_T : Pk) (w_L : Pk) (w_P : Pk) (w_C : Pk) (w_M : Pk) (w_Q : Pk) (w_d : Pk) (w_F : Pk) (w_G : Pk) (w_r : Pk) (w_n : Pk) (w_m : Pk) (y3 : Int32), rec18 w_t w_w w_b w_l w_H w_k0 w_k1 w_k2 w_k3 w_k4 w_k5 w_k6 w_k7 w_x w_T w_L w_P w_C w_M w_Q w_d w_F w_G w_r w_n w_m y3 = some 1 → BK X 8 177 15831 18 ([nX9 cI cZ cQ h_t (h_w 0) (h_b 0) (h_l 0) (h_H 0) (h_x 0) (h_T 0) (h_C 0) (h_d 0) (h_F 0) (h_r 0) (h_n 0) w_t, nX8 cI cZ cQ h_w w_w, nX8 cI cZ cQ h_b w_b, nX8 cI cZ cQ h_l w_l, nX2 cI cZ cQ h_H (hkf h_k0 h_k1 h_k2 h_k3 h_k4 h_k5 h_k6 h_k7) w_H, nX8 cI cZ cQ h_k0 w_k0, nX8 cI cZ cQ h_k1 w_k1, nX8 cI cZ cQ h_k2 w_k2, nX8 cI cZ cQ h_k3 w_k3, nX8 cI cZ cQ h_k4 w_k4, nX8 cI cZ cQ h_k5 w_k5, nX8 cI cZ cQ h_k6 w_k6, nX8 cI cZ cQ h_k7 w_k7, nX7 cI cZ cQ h_x w_x, nX6 cI cZ cQ h_T (h_w 0) (h_L 0) (h_P 0) w_T, nX4 cI cZ cQ h_L (h_w 0) w_L, nX4 cI cZ cQ h_P (h_w 0) w_P, nX6 cI cZ cQ h_C (h_w 0) (h_M 0) (h_Q 0) w_C, nX4 cI cZ cQ h_M (h_w 0) w_M, nX4 cI cZ cQ h_Q (h_w 0) w_Q, nX0 cI cZ cQ h_d (h_w 0) (h_T 0) w_d, nX1 cI cZ cQ h_F (h_G 0) w_F, nX4 cI cZ cQ h_G (h_w 0) w_G, nX5 cI cZ cQ h_r (h_w 0) w_r, nX3 cI cZ cQ h_n (h_w 0) w_n, nX10 cI cZ cQ h_m w_m]) [(0, .ref bS), (1, .ref (h_t 0)), (2, .ref (h_m 0)), (3, .int y3)] []) : ∀ (w_t : Pk) (w_w : Pk) (w_b : Pk) (w_l : Pk) (w_H : Pk) (w_k0 : Pk) (w_k1 : Pk) (w_k2 : Pk) (w_k3 : Pk) (w_k4 : Pk) (w_k5 : Pk) (w_k6 : Pk) (w_k7 : Pk) (w_x : Pk) (w_T : Pk) (w_L : Pk) (w_P : Pk) (w_C : Pk) (w_M : Pk) (w_Q : Pk) (w_d : Pk) (w_F : Pk) (w_G : Pk) (w_r : Pk) (w_n : Pk) (w_m : Pk) (y3 : Int32), fL_b1723 L xs rec18 w_t w_w w_b w_l w_H w_k0 w_k1 w_k2 w_k3 w_k4 w_k5 w_k6 w_k7 w_x w_T w_L w_P w_C w_M w_Q w_d w_F w_G w_r w_n w_m y3 = some 1 → BK X 8 177 15831 1723 ([nX9 cI cZ cQ h_t (h_w 0) (h_b 0) (h_l 0) (h_H 0) (h_x 0) (h_T 0) (h_C 0) (h_d 0) (h_F 0) (h_r 0) (h_n 0) w_t, nX8 cI cZ cQ h_w w_w, nX8 cI cZ cQ h_b w_b, nX8 cI cZ cQ h_l w_l, nX2 cI cZ cQ h_H (hkf h_k0 h_k1 h_k2 h_k3 h_k4 h_k5 h_k6 h_k7) w_H, nX8 cI cZ cQ h_k0 w_k0, nX8 cI cZ cQ h_k1 w_k1, nX8 cI cZ cQ h_k2 w_k2, nX8 cI cZ cQ h_k3 w_k3, nX8 cI cZ cQ h_k4 w_k4, nX8 cI cZ cQ h_k5 w_k5, nX8 cI cZ cQ h_k6 w_k6, nX8 cI cZ cQ h_k7 w_k7, nX7 cI cZ cQ h_x w_x, nX6 cI cZ cQ h_T (h_w 0) (h_L 0) (h_P 0) w_T, nX4 cI cZ cQ h_L (h_w 0) w_L, nX4 cI cZ cQ h_P (h_w 0) w_P, nX6 cI cZ cQ h_C (h_w 0) (h_M 0) (h_Q 0) w_C, nX4 cI cZ cQ h_M (h_w 0) w_M, nX4 cI cZ cQ h_Q (h_w 0) w_Q, nX0 cI cZ cQ h_d (h_w 0) (h_T 0) w_d, nX1 cI cZ cQ h_F (h_G 0) w_F, nX4 cI cZ cQ h_G (h_w 0) w_G, nX5 cI cZ cQ h_r (h_w 0) w_r, nX3 cI cZ cQ h_n (h_w 0) w_n, nX10 cI cZ cQ h_m w_m]) [(0, .ref bS), (1, .ref (h_t 0)), (2, .ref (h_m 0)), (3, .int y3)] [] := by
  intro w_t w_w w_b w_l w_H w_k0 w_k1 w_k2 w_k3 w_k4 w_k5 w_k6 w_k7 w_x w_T w_L w_P w_C w_M w_Q w_d w_F w_G w_r w_n w_m y3 hf
  unfold fL_b1723 at hf
  refine r_ald_n O 1724 rfl 1 rfl dL_law_1723 ?_
  refine r_ald_n O 1725 rfl 0 rfl dL_law_1724 ?_
  refine r_ild_n O 1726 rfl 3 rfl dL_law_1725 ?_
  refine r_ic O 1727 rfl 1 (by decide) dL_law_1726 ?_
  refine r_iadd O 1728 rfl dL_law_1727 ?_
  obtain ⟨x1728, ex1728, hin1728, hf⟩ := qld_some hf
  refine r_sld O S 1729 rfl hin1728 dL_law_1728 ?_
  rw [← ex1728]
  refine r_ald_n O 1730 rfl 0 rfl dL_law_1729 ?_
  refine r_ild_n O 1731 rfl 3 rfl dL_law_1730 ?_
  refine r_ic O 1732 rfl 2 (by decide) dL_law_1731 ?_
  refine r_iadd O 1733 rfl dL_law_1732 ?_
  obtain ⟨x1733, ex1733, hin1733, hf⟩ := qld_some hf
  refine r_sld O S 1734 rfl hin1733 dL_law_1733 ?_
  rw [← ex1733]
  obtain ⟨x1734, p1734_C, p1734_M, p1734_Q, hq1734, hf⟩ := qb4_some hf
  refine k_VI O 1737 rfl (zX9_piecesWith (l := xl X) (D := xD X) (cI := cI) (cZ := cZ) (cQ := cQ) (h_t := h_t) (h_w := h_w) (r_b := (h_b 0)) (r_l := (h_l 0)) (r_H := (h_H 0)) (r_x := (h_x 0)) (r_T := (h_T 0)) (h_C := h_C) (h_M := h_M) (h_Q := h_Q) (r_d := (h_d 0)) (r_F := (h_F 0)) (r_r := (h_r 0)) (r_n := (h_n 0)) hq1734) (gV mlL_199 mvX9_piecesWith izX9) rfl rfl rfl hdX9_piecesWith ⟨Nat.le_of_ble_eq_true rfl, Nat.le_of_ble_eq_true rfl⟩ rfl 0 rfl rfl rfl rfl (Nat.le_of_ble_eq_true rfl) ⟨Nat.le_of_ble_eq_true rfl, Nat.le_of_ble_eq_true rfl⟩ [0, 1, 17, 18, 19] rfl rfl rfl ([nX9 cI cZ cQ h_t (h_w 0) (h_b 0) (h_l 0) (h_H 0) (h_x 0) (h_T 0) (h_C 0) (h_d 0) (h_F 0) (h_r 0) (h_n 0) w_t, nX8 cI cZ cQ h_w w_w, nX8 cI cZ cQ h_b w_b, nX8 cI cZ cQ h_l w_l, nX2 cI cZ cQ h_H (hkf h_k0 h_k1 h_k2 h_k3 h_k4 h_k5 h_k6 h_k7) w_H, nX8 cI cZ cQ h_k0 w_k0, nX8 cI cZ cQ h_k1 w_k1, nX8 cI cZ cQ h_k2 w_k2, nX8 cI cZ cQ h_k3 w_k3, nX8 cI cZ cQ h_k4 w_k4, nX8 cI cZ cQ h_k5 w_k5, nX8 cI cZ cQ h_k6 w_k6, nX8 cI cZ cQ h_k7 w_k7, nX7 cI cZ cQ h_x w_x, nX6 cI cZ cQ h_T (h_w 0) (h_L 0) (h_P 0) w_T, nX4 cI cZ cQ h_L (h_w 0) w_L, nX4 cI cZ cQ h_P (h_w 0) w_P, nX6 cI cZ cQ h_C (h_w 0) (h_M 0) (h_Q 0) p1734_C, nX4 cI cZ cQ h_M (h_w 0) p1734_M, nX4 cI cZ cQ h_Q (h_w 0) p1734_Q, nX0 cI cZ cQ h_d (h_w 0) (h_T 0) w_d, nX1 cI cZ cQ h_F (h_G 0) w_F, nX4 cI cZ cQ h_G (h_w 0) w_G, nX5 cI cZ cQ h_r (h_w 0) w_r, nX3 cI cZ cQ h_n (h_w 0) w_n, nX10 cI cZ cQ h_m w_m]) rfl dL_law_1734 ?_
  refine r_ald_n O 1738 rfl 2 rfl dL_law_1737 ?_
  refine r_ald_n O 1739 rfl 0 rfl dL_law_1738 ?_
  refine r_ild_n O 1740 rfl 3 rfl dL_law_1739 ?_
  refine r_ic O 1741 rfl 1 (by decide) dL_law_1740 ?_
  refine r_iadd O 1742 rfl dL_law_1741 ?_
  obtain ⟨x1742, ex1742, hin1742, hf⟩ := qld_some hf
  refine r_sld O S 1743 rfl hin1742 dL_law_1742 ?_
  rw [← ex1742]
  refine r_ald_n O 1744 rfl 0 rfl dL_law_1743 ?_
  refine r_ild_n O 1745 rfl 3 rfl dL_law_1744 ?_
  refine r_ic O 1746 rfl 2 (by decide) dL_law_1745 ?_
  refine r_iadd O 1747 rfl dL_law_1746 ?_
  obtain ⟨x1747, ex1747, hin1747, hf⟩ := qld_some hf
  refine r_sld O S 1748 rfl hin1747 dL_law_1747 ?_
  rw [← ex1747]
  obtain ⟨x1748, p1748_m, hq1748, hf⟩ := qb2_some hf
  refine k_VI O 1751 rfl (zX10_piecesWith (l := xl X) (D := xD X) (cI := cI) (cZ := cZ) (cQ := cQ) (h_t := h_m) hq1748) (gV mlL_202 mvX10_piecesWith izX10) rfl rfl rfl hdX10_piecesWith ⟨Nat.le_of_ble_eq_true rfl, Nat.le_of_ble_eq_true rfl⟩ rfl 25 rfl rfl rfl rfl (Nat.le_of_ble_eq_true rfl) ⟨Nat.le_of_ble_eq_true rfl, Nat.le_of_ble_eq_true rfl⟩ [25] rfl rfl rfl ([nX9 cI cZ cQ h_t (h_w 0) (h_b 0) (h_l 0) (h_H 0) (h_x 0) (h_T 0) (h_C 0) (h_d 0) (h_F 0) (h_r 0) (h_n 0) w_t, nX8 cI cZ cQ h_w w_w, nX8 cI cZ cQ h_b w_b, nX8 cI cZ cQ h_l w_l, nX2 cI cZ cQ h_H (hkf h_k0 h_k1 h_k2 h_k3 h_k4 h_k5 h_k6 h_k7) w_H, nX8 cI cZ cQ h_k0 w_k0, nX8 cI cZ cQ h_k1 w_k1, nX8 cI cZ cQ h_k2 w_k2, nX8 cI cZ cQ h_k3 w_k3, nX8 cI cZ cQ h_k4 w_k4, nX8 cI cZ cQ h_k5 w_k5, nX8 cI cZ cQ h_k6 w_k6, nX8 cI cZ cQ h_k7 w_k7, nX7 cI cZ cQ h_x w_x, nX6 cI cZ cQ h_T (h_w 0) (h_L 0) (h_P 0) w_T, nX4 cI cZ cQ h_L (h_w 0) w_L, nX4 cI cZ cQ h_P (h_w 0) w_P, nX6 cI cZ cQ h_C (h_w 0) (h_M 0) (h_Q 0) p1734_C, nX4 cI cZ cQ h_M (h_w 0) p1734_M, nX4 cI cZ cQ h_Q (h_w 0) p1734_Q, nX0 cI cZ cQ h_d (h_w 0) (h_T 0) w_d, nX1 cI cZ cQ h_F (h_G 0) w_F, nX4 cI cZ cQ h_G (h_w 0) w_G, nX5 cI cZ cQ h_r (h_w 0) w_r, nX3 cI cZ cQ h_n (h_w 0) w_n, nX10 cI cZ cQ h_m p1748_m]) rfl dL_law_1748 ?_
  refine r_icmp_eq O 1754 rfl 1795 dL_law_1751 (by decide) (fun hc1751 => ?_) (fun hc1751 => ?_)
  · rw [if_pos hc1751] at hf
    exact lwB1795 O S E rec18 hrec18 _ _ _ _ _ _ _ _ _ _ _ _ _ _ _ _ _ _ _ _ _ _ _ _ _ _ _ hf
  · rw [if_neg hc1751] at hf
    refine r_ic O 1755 rfl 0 (by decide) dL_law_1754 ?_
    exact absurd (qe1 hf) (by decide)
set_option maxHeartbeats 40000000 in
set_option maxRecDepth 100000 in
theorem lwB962 {X : Cx} {cI cZ cQ : ClassId} {bS L : Nat} {xs : Nat → Int32} (O : OK X cL_law 8 RL wB room_1 cI cZ cQ) (S : SX X bS L xs) (E : ∀ {pc : Nat} {ws : List va_W} {lv : List (Nat × Value)}, decode cL_law pc = .ok (.ireturn, 1) → BK X 8 177 15831 pc ws lv [.int 1]) {h_t h_w h_b h_l h_H h_k0 h_k1 h_k2 h_k3 h_k4 h_k5 h_k6 h_k7 h_x h_T h_L h_P h_C h_M h_Q h_d h_F h_G h_r h_n h_m : Nat → Nat} (rec18 : Pk → Pk → Pk → Pk → Pk → Pk → Pk → Pk → Pk → Pk → Pk → Pk → Pk → Pk → Pk → Pk → Pk → Pk → Pk → Pk → Pk → Pk → Pk → Pk → Pk → Pk → Int32 → Option Int32) (hrec18 : ∀ (w_t : Pk) (w_w : Pk) (w_b : Pk) (w_l : Pk) (w_H : Pk) (w_k0 : Pk) (w_k1 : Pk) (w_k2 : Pk) (w_k3 : Pk) (w_k4 : Pk) (w_k5 : Pk) (w_k6 : Pk) (w_k7 : Pk) (w_x : Pk) (w_T : Pk) (w_L : Pk) (w_P : Pk) (w_C : Pk) (w_M : Pk) (w_Q : Pk) (w_d : Pk) (w_F : Pk) (w_G : Pk) (w_r : Pk) (w_n : Pk) (w_m : Pk) (y3 : Int32), rec18 w_t w_w w_b w_l w_H w_k0 w_k1 w_k2 w_k3 w_k4 w_k5 w_k6 w_k7 w_x w_T w_L w_P w_C w_M w_Q w_d w_F w_G w_r w_n w_m y3 = some 1 → BK X 8 177 15831 18 ([nX9 cI cZ cQ h_t (h_w 0) (h_b 0) (h_l 0) (h_H 0) (h_x 0) (h_T 0) (h_C 0) (h_d 0) (h_F 0) (h_r 0) (h_n 0) w_t, nX8 cI cZ cQ h_w w_w, nX8 cI cZ cQ h_b w_b, nX8 cI cZ cQ h_l w_l, nX2 cI cZ cQ h_H (hkf h_k0 h_k1 h_k2 h_k3 h_k4 h_k5 h_k6 h_k7) w_H, nX8 cI cZ cQ h_k0 w_k0, nX8 cI cZ cQ h_k1 w_k1, nX8 cI cZ cQ h_k2 w_k2, nX8 cI cZ cQ h_k3 w_k3, nX8 cI cZ cQ h_k4 w_k4, nX8 cI cZ cQ h_k5 w_k5, nX8 cI cZ cQ h_k6 w_k6, nX8 cI cZ cQ h_k7 w_k7, nX7 cI cZ cQ h_x w_x, nX6 cI cZ cQ h_T (h_w 0) (h_L 0) (h_P 0) w_T, nX4 cI cZ cQ h_L (h_w 0) w_L, nX4 cI cZ cQ h_P (h_w 0) w_P, nX6 cI cZ cQ h_C (h_w 0) (h_M 0) (h_Q 0) w_C, nX4 cI cZ cQ h_M (h_w 0) w_M, nX4 cI cZ cQ h_Q (h_w 0) w_Q, nX0 cI cZ cQ h_d (h_w 0) (h_T 0) w_d, nX1 cI cZ cQ h_F (h_G 0) w_F, nX4 cI cZ cQ h_G (h_w 0) w_G, nX5 cI cZ cQ h_r (h_w 0) w_r, nX3 cI cZ cQ h_n (h_w 0) w_n, nX10 cI cZ cQ h_m w_m]) [(0, .ref bS), (1, .ref (h_t 0)), (2, .ref (h_m 0)), (3, .int y3)] []) : ∀ (w_t : Pk) (w_w : Pk) (w_b : Pk) (w_l : Pk) (w_H : Pk) (w_k0 : Pk) (w_k1 : Pk) (w_k2 : Pk) (w_k3 : Pk) (w_k4 : Pk) (w_k5 : Pk) (w_k6 : Pk) (w_k7 : Pk) (w_x : Pk) (w_T : Pk) (w_L : Pk) (w_P : Pk) (w_C : Pk) (w_M : Pk) (w_Q : Pk) (w_d : Pk) (w_F : Pk) (w_G : Pk) (w_r : Pk) (w_n : Pk) (w_m : Pk) (y3 : Int32), fL_b962 L xs rec18 w_t w_w w_b w_l w_H w_k0 w_k1 w_k2 w_k3 w_k4 w_k5 w_k6 w_k7 w_x w_T w_L w_P w_C w_M w_Q w_d w_F w_G w_r w_n w_m y3 = some 1 → BK X 8 177 15831 962 ([nX9 cI cZ cQ h_t (h_w 0) (h_b 0) (h_l 0) (h_H 0) (h_x 0) (h_T 0) (h_C 0) (h_d 0) (h_F 0) (h_r 0) (h_n 0) w_t, nX8 cI cZ cQ h_w w_w, nX8 cI cZ cQ h_b w_b, nX8 cI cZ cQ h_l w_l, nX2 cI cZ cQ h_H (hkf h_k0 h_k1 h_k2 h_k3 h_k4 h_k5 h_k6 h_k7) w_H, nX8 cI cZ cQ h_k0 w_k0, nX8 cI cZ cQ h_k1 w_k1, nX8 cI cZ cQ h_k2 w_k2, nX8 cI cZ cQ h_k3 w_k3, nX8 cI cZ cQ h_k4 w_k4, nX8 cI cZ cQ h_k5 w_k5, nX8 cI cZ cQ h_k6 w_k6, nX8 cI cZ cQ h_k7 w_k7, nX7 cI cZ cQ h_x w_x, nX6 cI cZ cQ h_T (h_w 0) (h_L 0) (h_P 0) w_T, nX4 cI cZ cQ h_L (h_w 0) w_L, nX4 cI cZ cQ h_P (h_w 0) w_P, nX6 cI cZ cQ h_C (h_w 0) (h_M 0) (h_Q 0) w_C, nX4 cI cZ cQ h_M (h_w 0) w_M, nX4 cI cZ cQ h_Q (h_w 0) w_Q, nX0 cI cZ cQ h_d (h_w 0) (h_T 0) w_d, nX1 cI cZ cQ h_F (h_G 0) w_F, nX4 cI cZ cQ h_G (h_w 0) w_G, nX5 cI cZ cQ h_r (h_w 0) w_r, nX3 cI cZ cQ h_n (h_w 0) w_n, nX10 cI cZ cQ h_m w_m]) [(0, .ref bS), (1, .ref (h_t 0)), (2, .ref (h_m 0)), (3, .int y3)] [] := by
  intro w_t w_w w_b w_l w_H w_k0 w_k1 w_k2 w_k3 w_k4 w_k5 w_k6 w_k7 w_x w_T w_L w_P w_C w_M w_Q w_d w_F w_G w_r w_n w_m y3 hf
  unfold fL_b962 at hf
  refine r_ald_n O 963 rfl 1 rfl dL_law_962 ?_
  obtain ⟨x963, hq963, hf⟩ := qb1_some hf
  refine k_VI O 966 rfl (zX9_buildCount (l := xl X) (D := xD X) (cI := cI) (cZ := cZ) (cQ := cQ) (h_t := h_t) (r_w := (h_w 0)) (r_b := (h_b 0)) (r_l := (h_l 0)) (r_H := (h_H 0)) (r_x := (h_x 0)) (r_T := (h_T 0)) (r_C := (h_C 0)) (r_d := (h_d 0)) (r_F := (h_F 0)) (r_r := (h_r 0)) (r_n := (h_n 0)) hq963) (gV mlL_132 mvX9_buildCount izX9) rfl rfl rfl hdX9_buildCount ⟨Nat.le_of_ble_eq_true rfl, Nat.le_of_ble_eq_true rfl⟩ rfl 0 rfl rfl rfl rfl (Nat.le_of_ble_eq_true rfl) ⟨Nat.le_of_ble_eq_true rfl, Nat.le_of_ble_eq_true rfl⟩ [0] rfl rfl rfl ([nX9 cI cZ cQ h_t (h_w 0) (h_b 0) (h_l 0) (h_H 0) (h_x 0) (h_T 0) (h_C 0) (h_d 0) (h_F 0) (h_r 0) (h_n 0) w_t, nX8 cI cZ cQ h_w w_w, nX8 cI cZ cQ h_b w_b, nX8 cI cZ cQ h_l w_l, nX2 cI cZ cQ h_H (hkf h_k0 h_k1 h_k2 h_k3 h_k4 h_k5 h_k6 h_k7) w_H, nX8 cI cZ cQ h_k0 w_k0, nX8 cI cZ cQ h_k1 w_k1, nX8 cI cZ cQ h_k2 w_k2, nX8 cI cZ cQ h_k3 w_k3, nX8 cI cZ cQ h_k4 w_k4, nX8 cI cZ cQ h_k5 w_k5, nX8 cI cZ cQ h_k6 w_k6, nX8 cI cZ cQ h_k7 w_k7, nX7 cI cZ cQ h_x w_x, nX6 cI cZ cQ h_T (h_w 0) (h_L 0) (h_P 0) w_T, nX4 cI cZ cQ h_L (h_w 0) w_L, nX4 cI cZ cQ h_P (h_w 0) w_P, nX6 cI cZ cQ h_C (h_w 0) (h_M 0) (h_Q 0) w_C, nX4 cI cZ cQ h_M (h_w 0) w_M, nX4 cI cZ cQ h_Q (h_w 0) w_Q, nX0 cI cZ cQ h_d (h_w 0) (h_T 0) w_d, nX1 cI cZ cQ h_F (h_G 0) w_F, nX4 cI cZ cQ h_G (h_w 0) w_G, nX5 cI cZ cQ h_r (h_w 0) w_r, nX3 cI cZ cQ h_n (h_w 0) w_n, nX10 cI cZ cQ h_m w_m]) rfl dL_law_963 ?_
  refine r_ald_n O 967 rfl 2 rfl dL_law_966 ?_
  obtain ⟨x967, hq967, hf⟩ := qb1_some hf
  refine k_VI O 970 rfl (zX10_buildCount (l := xl X) (D := xD X) (cI := cI) (cZ := cZ) (cQ := cQ) (h_t := h_m) hq967) (gV mlL_135 mvX10_buildCount izX10) rfl rfl rfl hdX10_buildCount ⟨Nat.le_of_ble_eq_true rfl, Nat.le_of_ble_eq_true rfl⟩ rfl 25 rfl rfl rfl rfl (Nat.le_of_ble_eq_true rfl) ⟨Nat.le_of_ble_eq_true rfl, Nat.le_of_ble_eq_true rfl⟩ [25] rfl rfl rfl ([nX9 cI cZ cQ h_t (h_w 0) (h_b 0) (h_l 0) (h_H 0) (h_x 0) (h_T 0) (h_C 0) (h_d 0) (h_F 0) (h_r 0) (h_n 0) w_t, nX8 cI cZ cQ h_w w_w, nX8 cI cZ cQ h_b w_b, nX8 cI cZ cQ h_l w_l, nX2 cI cZ cQ h_H (hkf h_k0 h_k1 h_k2 h_k3 h_k4 h_k5 h_k6 h_k7) w_H, nX8 cI cZ cQ h_k0 w_k0, nX8 cI cZ cQ h_k1 w_k1, nX8 cI cZ cQ h_k2 w_k2, nX8 cI cZ cQ h_k3 w_k3, nX8 cI cZ cQ h_k4 w_k4, nX8 cI cZ cQ h_k5 w_k5, nX8 cI cZ cQ h_k6 w_k6, nX8 cI cZ cQ h_k7 w_k7, nX7 cI cZ cQ h_x w_x, nX6 cI cZ cQ h_T (h_w 0) (h_L 0) (h_P 0) w_T, nX4 cI cZ cQ h_L (h_w 0) w_L, nX4 cI cZ cQ h_P (h_w 0) w_P, nX6 cI cZ cQ h_C (h_w 0) (h_M 0) (h_Q 0) w_C, nX4 cI cZ cQ h_M (h_w 0) w_M, nX4 cI cZ cQ h_Q (h_w 0) w_Q, nX0 cI cZ cQ h_d (h_w 0) (h_T 0) w_d, nX1 cI cZ cQ h_F (h_G 0) w_F, nX4 cI cZ cQ h_G (h_w 0) w_G, nX5 cI cZ cQ h_r (h_w 0) w_r, nX3 cI cZ cQ h_n (h_w 0) w_n, nX10 cI cZ cQ h_m w_m]) rfl dL_law_967 ?_
  refine r_icmp_eq O 973 rfl 1795 dL_law_970 (by decide) (fun hc970 => ?_) (fun hc970 => ?_)
  · rw [if_pos hc970] at hf
    exact lwB1795 O S E rec18 hrec18 _ _ _ _ _ _ _ _ _ _ _ _ _ _ _ _ _ _ _ _ _ _ _ _ _ _ _ hf
  · rw [if_neg hc970] at hf
    refine r_ic O 974 rfl 0 (by decide) dL_law_973 ?_
    exact absurd (qe1 hf) (by decide)
set_option maxHeartbeats 40000000 in
set_option maxRecDepth 100000 in
theorem lwB1220 {X : Cx} {cI cZ cQ : ClassId} {bS L : Nat} {xs : Nat → Int32} (O : OK X cL_law 8 RL wB room_1 cI cZ cQ) (S : SX X bS L xs) (E : ∀ {pc : Nat} {ws : List va_W} {lv : List (Nat × Value)}, decode cL_law pc = .ok (.ireturn, 1) → BK X 8 177 15831 pc ws lv [.int 1]) {h_t h_w h_b h_l h_H h_k0 h_k1 h_k2 h_k3 h_k4 h_k5 h_k6 h_k7 h_x h_T h_L h_P h_C h_M h_Q h_d h_F h_G h_r h_n h_m : Nat → Nat} (rec18 : Pk → Pk → Pk → Pk → Pk → Pk → Pk → Pk → Pk → Pk → Pk → Pk → Pk → Pk → Pk → Pk → Pk → Pk → Pk → Pk → Pk → Pk → Pk → Pk → Pk → Pk → Int32 → Option Int32) (hrec18 : ∀ (w_t : Pk) (w_w : Pk) (w_b : Pk) (w_l : Pk) (w_H : Pk) (w_k0 : Pk) (w_k1 : Pk) (w_k2 : Pk) (w_k3 : Pk) (w_k4 : Pk) (w_k5 : Pk) (w_k6 : Pk) (w_k7 : Pk) (w_x : Pk) (w_T : Pk) (w_L : Pk) (w_P : Pk) (w_C : Pk) (w_M : Pk) (w_Q : Pk) (w_d : Pk) (w_F : Pk) (w_G : Pk) (w_r : Pk) (w_n : Pk) (w_m : Pk) (y3 : Int32), rec18 w_t w_w w_b w_l w_H w_k0 w_k1 w_k2 w_k3 w_k4 w_k5 w_k6 w_k7 w_x w_T w_L w_P w_C w_M w_Q w_d w_F w_G w_r w_n w_m y3 = some 1 → BK X 8 177 15831 18 ([nX9 cI cZ cQ h_t (h_w 0) (h_b 0) (h_l 0) (h_H 0) (h_x 0) (h_T 0) (h_C 0) (h_d 0) (h_F 0) (h_r 0) (h_n 0) w_t, nX8 cI cZ cQ h_w w_w, nX8 cI cZ cQ h_b w_b, nX8 cI cZ cQ h_l w_l, nX2 cI cZ cQ h_H (hkf h_k0 h_k1 h_k2 h_k3 h_k4 h_k5 h_k6 h_k7) w_H, nX8 cI cZ cQ h_k0 w_k0, nX8 cI cZ cQ h_k1 w_k1, nX8 cI cZ cQ h_k2 w_k2, nX8 cI cZ cQ h_k3 w_k3, nX8 cI cZ cQ h_k4 w_k4, nX8 cI cZ cQ h_k5 w_k5, nX8 cI cZ cQ h_k6 w_k6, nX8 cI cZ cQ h_k7 w_k7, nX7 cI cZ cQ h_x w_x, nX6 cI cZ cQ h_T (h_w 0) (h_L 0) (h_P 0) w_T, nX4 cI cZ cQ h_L (h_w 0) w_L, nX4 cI cZ cQ h_P (h_w 0) w_P, nX6 cI cZ cQ h_C (h_w 0) (h_M 0) (h_Q 0) w_C, nX4 cI cZ cQ h_M (h_w 0) w_M, nX4 cI cZ cQ h_Q (h_w 0) w_Q, nX0 cI cZ cQ h_d (h_w 0) (h_T 0) w_d, nX1 cI cZ cQ h_F (h_G 0) w_F, nX4 cI cZ cQ h_G (h_w 0) w_G, nX5 cI cZ cQ h_r (h_w 0) w_r, nX3 cI cZ cQ h_n (h_w 0) w_n, nX10 cI cZ cQ h_m w_m]) [(0, .ref bS), (1, .ref (h_t 0)), (2, .ref (h_m 0)), (3, .int y3)] []) : ∀ (w_t : Pk) (w_w : Pk) (w_b : Pk) (w_l : Pk) (w_H : Pk) (w_k0 : Pk) (w_k1 : Pk) (w_k2 : Pk) (w_k3 : Pk) (w_k4 : Pk) (w_k5 : Pk) (w_k6 : Pk) (w_k7 : Pk) (w_x : Pk) (w_T : Pk) (w_L : Pk) (w_P : Pk) (w_C : Pk) (w_M : Pk) (w_Q : Pk) (w_d : Pk) (w_F : Pk) (w_G : Pk) (w_r : Pk) (w_n : Pk) (w_m : Pk) (y3 : Int32), fL_b1220 L xs rec18 w_t w_w w_b w_l w_H w_k0 w_k1 w_k2 w_k3 w_k4 w_k5 w_k6 w_k7 w_x w_T w_L w_P w_C w_M w_Q w_d w_F w_G w_r w_n w_m y3 = some 1 → BK X 8 177 15831 1220 ([nX9 cI cZ cQ h_t (h_w 0) (h_b 0) (h_l 0) (h_H 0) (h_x 0) (h_T 0) (h_C 0) (h_d 0) (h_F 0) (h_r 0) (h_n 0) w_t, nX8 cI cZ cQ h_w w_w, nX8 cI cZ cQ h_b w_b, nX8 cI cZ cQ h_l w_l, nX2 cI cZ cQ h_H (hkf h_k0 h_k1 h_k2 h_k3 h_k4 h_k5 h_k6 h_k7) w_H, nX8 cI cZ cQ h_k0 w_k0, nX8 cI cZ cQ h_k1 w_k1, nX8 cI cZ cQ h_k2 w_k2, nX8 cI cZ cQ h_k3 w_k3, nX8 cI cZ cQ h_k4 w_k4, nX8 cI cZ cQ h_k5 w_k5, nX8 cI cZ cQ h_k6 w_k6, nX8 cI cZ cQ h_k7 w_k7, nX7 cI cZ cQ h_x w_x, nX6 cI cZ cQ h_T (h_w 0) (h_L 0) (h_P 0) w_T, nX4 cI cZ cQ h_L (h_w 0) w_L, nX4 cI cZ cQ h_P (h_w 0) w_P, nX6 cI cZ cQ h_C (h_w 0) (h_M 0) (h_Q 0) w_C, nX4 cI cZ cQ h_M (h_w 0) w_M, nX4 cI cZ cQ h_Q (h_w 0) w_Q, nX0 cI cZ cQ h_d (h_w 0) (h_T 0) w_d, nX1 cI cZ cQ h_F (h_G 0) w_F, nX4 cI cZ cQ h_G (h_w 0) w_G, nX5 cI cZ cQ h_r (h_w 0) w_r, nX3 cI cZ cQ h_n (h_w 0) w_n, nX10 cI cZ cQ h_m w_m]) [(0, .ref bS), (1, .ref (h_t 0)), (2, .ref (h_m 0)), (3, .int y3)] [] := by
  intro w_t w_w w_b w_l w_H w_k0 w_k1 w_k2 w_k3 w_k4 w_k5 w_k6 w_k7 w_x w_T w_L w_P w_C w_M w_Q w_d w_F w_G w_r w_n w_m y3 hf
  unfold fL_b1220 at hf
  refine r_ald_n O 1221 rfl 1 rfl dL_law_1220 ?_
  refine r_ald_n O 1222 rfl 0 rfl dL_law_1221 ?_
  refine r_ild_n O 1223 rfl 3 rfl dL_law_1222 ?_
  refine r_ic O 1224 rfl 1 (by decide) dL_law_1223 ?_
  refine r_iadd O 1225 rfl dL_law_1224 ?_
  obtain ⟨x1225, ex1225, hin1225, hf⟩ := qld_some hf
  refine r_sld O S 1226 rfl hin1225 dL_law_1225 ?_
  rw [← ex1225]
  refine r_ald_n O 1227 rfl 0 rfl dL_law_1226 ?_
  refine r_ild_n O 1228 rfl 3 rfl dL_law_1227 ?_
  refine r_ic O 1229 rfl 2 (by decide) dL_law_1228 ?_
  refine r_iadd O 1230 rfl dL_law_1229 ?_
  obtain ⟨x1230, ex1230, hin1230, hf⟩ := qld_some hf
  refine r_sld O S 1231 rfl hin1230 dL_law_1230 ?_
  rw [← ex1230]
  refine r_ald_n O 1232 rfl 0 rfl dL_law_1231 ?_
  refine r_ild_n O 1233 rfl 3 rfl dL_law_1232 ?_
  refine r_ic O 1234 rfl 3 (by decide) dL_law_1233 ?_
  refine r_iadd O 1235 rfl dL_law_1234 ?_
  obtain ⟨x1235, ex1235, hin1235, hf⟩ := qld_some hf
  refine r_sld O S 1236 rfl hin1235 dL_law_1235 ?_
  rw [← ex1235]
  refine r_ald_n O 1237 rfl 0 rfl dL_law_1236 ?_
  refine r_ild_n O 1238 rfl 3 rfl dL_law_1237 ?_
  refine r_ic O 1239 rfl 4 (by decide) dL_law_1238 ?_
  refine r_iadd O 1240 rfl dL_law_1239 ?_
  obtain ⟨x1240, ex1240, hin1240, hf⟩ := qld_some hf
  refine r_sld O S 1241 rfl hin1240 dL_law_1240 ?_
  rw [← ex1240]
  refine r_ald_n O 1242 rfl 0 rfl dL_law_1241 ?_
  refine r_ild_n O 1243 rfl 3 rfl dL_law_1242 ?_
  refine r_ic O 1244 rfl 5 (by decide) dL_law_1243 ?_
  refine r_iadd O 1245 rfl dL_law_1244 ?_
  obtain ⟨x1245, ex1245, hin1245, hf⟩ := qld_some hf
  refine r_sld O S 1246 rfl hin1245 dL_law_1245 ?_
  rw [← ex1245]
  obtain ⟨x1246, p1246_r, hq1246, hf⟩ := qb2_some hf
  refine k_VI O 1249 rfl (zX9_columnWall (l := xl X) (D := xD X) (cI := cI) (cZ := cZ) (cQ := cQ) (h_t := h_t) (h_w := h_w) (r_b := (h_b 0)) (r_l := (h_l 0)) (r_H := (h_H 0)) (r_x := (h_x 0)) (r_T := (h_T 0)) (r_C := (h_C 0)) (r_d := (h_d 0)) (r_F := (h_F 0)) (h_r := h_r) (r_n := (h_n 0)) hq1246) (gV mlL_158 mvX9_columnWall izX9) rfl rfl rfl hdX9_columnWall ⟨Nat.le_of_ble_eq_true rfl, Nat.le_of_ble_eq_true rfl⟩ rfl 0 rfl rfl rfl rfl (Nat.le_of_ble_eq_true rfl) ⟨Nat.le_of_ble_eq_true rfl, Nat.le_of_ble_eq_true rfl⟩ [0, 1, 23] rfl rfl rfl ([nX9 cI cZ cQ h_t (h_w 0) (h_b 0) (h_l 0) (h_H 0) (h_x 0) (h_T 0) (h_C 0) (h_d 0) (h_F 0) (h_r 0) (h_n 0) w_t, nX8 cI cZ cQ h_w w_w, nX8 cI cZ cQ h_b w_b, nX8 cI cZ cQ h_l w_l, nX2 cI cZ cQ h_H (hkf h_k0 h_k1 h_k2 h_k3 h_k4 h_k5 h_k6 h_k7) w_H, nX8 cI cZ cQ h_k0 w_k0, nX8 cI cZ cQ h_k1 w_k1, nX8 cI cZ cQ h_k2 w_k2, nX8 cI cZ cQ h_k3 w_k3, nX8 cI cZ cQ h_k4 w_k4, nX8 cI cZ cQ h_k5 w_k5, nX8 cI cZ cQ h_k6 w_k6, nX8 cI cZ cQ h_k7 w_k7, nX7 cI cZ cQ h_x w_x, nX6 cI cZ cQ h_T (h_w 0) (h_L 0) (h_P 0) w_T, nX4 cI cZ cQ h_L (h_w 0) w_L, nX4 cI cZ cQ h_P (h_w 0) w_P, nX6 cI cZ cQ h_C (h_w 0) (h_M 0) (h_Q 0) w_C, nX4 cI cZ cQ h_M (h_w 0) w_M, nX4 cI cZ cQ h_Q (h_w 0) w_Q, nX0 cI cZ cQ h_d (h_w 0) (h_T 0) w_d, nX1 cI cZ cQ h_F (h_G 0) w_F, nX4 cI cZ cQ h_G (h_w 0) w_G, nX5 cI cZ cQ h_r (h_w 0) p1246_r, nX3 cI cZ cQ h_n (h_w 0) w_n, nX10 cI cZ cQ h_m w_m]) rfl dL_law_1246 ?_
  refine r_ald_n O 1250 rfl 2 rfl dL_law_1249 ?_
  refine r_ald_n O 1251 rfl 0 rfl dL_law_1250 ?_
  refine r_ild_n O 1252 rfl 3 rfl dL_law_1251 ?_
  refine r_ic O 1253 rfl 1 (by decide) dL_law_1252 ?_
  refine r_iadd O 1254 rfl dL_law_1253 ?_
  obtain ⟨x1254, ex1254, hin1254, hf⟩ := qld_some hf
  refine r_sld O S 1255 rfl hin1254 dL_law_1254 ?_
  rw [← ex1254]
  refine r_ald_n O 1256 rfl 0 rfl dL_law_1255 ?_
  refine r_ild_n O 1257 rfl 3 rfl dL_law_1256 ?_
  refine r_ic O 1258 rfl 2 (by decide) dL_law_1257 ?_
  refine r_iadd O 1259 rfl dL_law_1258 ?_
  obtain ⟨x1259, ex1259, hin1259, hf⟩ := qld_some hf
  refine r_sld O S 1260 rfl hin1259 dL_law_1259 ?_
  rw [← ex1259]
  refine r_ald_n O 1261 rfl 0 rfl dL_law_1260 ?_
  refine r_ild_n O 1262 rfl 3 rfl dL_law_1261 ?_
  refine r_ic O 1263 rfl 3 (by decide) dL_law_1262 ?_
  refine r_iadd O 1264 rfl dL_law_1263 ?_
  obtain ⟨x1264, ex1264, hin1264, hf⟩ := qld_some hf
  refine r_sld O S 1265 rfl hin1264 dL_law_1264 ?_
  rw [← ex1264]
  refine r_ald_n O 1266 rfl 0 rfl dL_law_1265 ?_
  refine r_ild_n O 1267 rfl 3 rfl dL_law_1266 ?_
  refine r_ic O 1268 rfl 4 (by decide) dL_law_1267 ?_
  refine r_iadd O 1269 rfl dL_law_1268 ?_
  obtain ⟨x1269, ex1269, hin1269, hf⟩ := qld_some hf
  refine r_sld O S 1270 rfl hin1269 dL_law_1269 ?_
  rw [← ex1269]
  refine r_ald_n O 1271 rfl 0 rfl dL_law_1270 ?_
  refine r_ild_n O 1272 rfl 3 rfl dL_law_1271 ?_
  refine r_ic O 1273 rfl 5 (by decide) dL_law_1272 ?_
  refine r_iadd O 1274 rfl dL_law_1273 ?_
  obtain ⟨x1274, ex1274, hin1274, hf⟩ := qld_some hf
  refine r_sld O S 1275 rfl hin1274 dL_law_1274 ?_
  rw [← ex1274]
  obtain ⟨x1275, p1275_m, hq1275, hf⟩ := qb2_some hf
  refine k_VI O 1278 rfl (zX10_columnWall (l := xl X) (D := xD X) (cI := cI) (cZ := cZ) (cQ := cQ) (h_t := h_m) hq1275) (gV mlL_161 mvX10_columnWall izX10) rfl rfl rfl hdX10_columnWall ⟨Nat.le_of_ble_eq_true rfl, Nat.le_of_ble_eq_true rfl⟩ rfl 25 rfl rfl rfl rfl (Nat.le_of_ble_eq_true rfl) ⟨Nat.le_of_ble_eq_true rfl, Nat.le_of_ble_eq_true rfl⟩ [25] rfl rfl rfl ([nX9 cI cZ cQ h_t (h_w 0) (h_b 0) (h_l 0) (h_H 0) (h_x 0) (h_T 0) (h_C 0) (h_d 0) (h_F 0) (h_r 0) (h_n 0) w_t, nX8 cI cZ cQ h_w w_w, nX8 cI cZ cQ h_b w_b, nX8 cI cZ cQ h_l w_l, nX2 cI cZ cQ h_H (hkf h_k0 h_k1 h_k2 h_k3 h_k4 h_k5 h_k6 h_k7) w_H, nX8 cI cZ cQ h_k0 w_k0, nX8 cI cZ cQ h_k1 w_k1, nX8 cI cZ cQ h_k2 w_k2, nX8 cI cZ cQ h_k3 w_k3, nX8 cI cZ cQ h_k4 w_k4, nX8 cI cZ cQ h_k5 w_k5, nX8 cI cZ cQ h_k6 w_k6, nX8 cI cZ cQ h_k7 w_k7, nX7 cI cZ cQ h_x w_x, nX6 cI cZ cQ h_T (h_w 0) (h_L 0) (h_P 0) w_T, nX4 cI cZ cQ h_L (h_w 0) w_L, nX4 cI cZ cQ h_P (h_w 0) w_P, nX6 cI cZ cQ h_C (h_w 0) (h_M 0) (h_Q 0) w_C, nX4 cI cZ cQ h_M (h_w 0) w_M, nX4 cI cZ cQ h_Q (h_w 0) w_Q, nX0 cI cZ cQ h_d (h_w 0) (h_T 0) w_d, nX1 cI cZ cQ h_F (h_G 0) w_F, nX4 cI cZ cQ h_G (h_w 0) w_G, nX5 cI cZ cQ h_r (h_w 0) p1246_r, nX3 cI cZ cQ h_n (h_w 0) w_n, nX10 cI cZ cQ h_m p1275_m]) rfl dL_law_1275 ?_
  refine r_icmp_eq O 1281 rfl 1795 dL_law_1278 (by decide) (fun hc1278 => ?_) (fun hc1278 => ?_)
  · rw [if_pos hc1278] at hf
    exact lwB1795 O S E rec18 hrec18 _ _ _ _ _ _ _ _ _ _ _ _ _ _ _ _ _ _ _ _ _ _ _ _ _ _ _ hf
  · rw [if_neg hc1278] at hf
    refine r_ic O 1282 rfl 0 (by decide) dL_law_1281 ?_
    exact absurd (qe1 hf) (by decide)
set_option maxHeartbeats 40000000 in
set_option maxRecDepth 100000 in
theorem lwB885 {X : Cx} {cI cZ cQ : ClassId} {bS L : Nat} {xs : Nat → Int32} (O : OK X cL_law 8 RL wB room_1 cI cZ cQ) (S : SX X bS L xs) (E : ∀ {pc : Nat} {ws : List va_W} {lv : List (Nat × Value)}, decode cL_law pc = .ok (.ireturn, 1) → BK X 8 177 15831 pc ws lv [.int 1]) {h_t h_w h_b h_l h_H h_k0 h_k1 h_k2 h_k3 h_k4 h_k5 h_k6 h_k7 h_x h_T h_L h_P h_C h_M h_Q h_d h_F h_G h_r h_n h_m : Nat → Nat} (rec18 : Pk → Pk → Pk → Pk → Pk → Pk → Pk → Pk → Pk → Pk → Pk → Pk → Pk → Pk → Pk → Pk → Pk → Pk → Pk → Pk → Pk → Pk → Pk → Pk → Pk → Pk → Int32 → Option Int32) (hrec18 : ∀ (w_t : Pk) (w_w : Pk) (w_b : Pk) (w_l : Pk) (w_H : Pk) (w_k0 : Pk) (w_k1 : Pk) (w_k2 : Pk) (w_k3 : Pk) (w_k4 : Pk) (w_k5 : Pk) (w_k6 : Pk) (w_k7 : Pk) (w_x : Pk) (w_T : Pk) (w_L : Pk) (w_P : Pk) (w_C : Pk) (w_M : Pk) (w_Q : Pk) (w_d : Pk) (w_F : Pk) (w_G : Pk) (w_r : Pk) (w_n : Pk) (w_m : Pk) (y3 : Int32), rec18 w_t w_w w_b w_l w_H w_k0 w_k1 w_k2 w_k3 w_k4 w_k5 w_k6 w_k7 w_x w_T w_L w_P w_C w_M w_Q w_d w_F w_G w_r w_n w_m y3 = some 1 → BK X 8 177 15831 18 ([nX9 cI cZ cQ h_t (h_w 0) (h_b 0) (h_l 0) (h_H 0) (h_x 0) (h_T 0) (h_C 0) (h_d 0) (h_F 0) (h_r 0) (h_n 0) w_t, nX8 cI cZ cQ h_w w_w, nX8 cI cZ cQ h_b w_b, nX8 cI cZ cQ h_l w_l, nX2 cI cZ cQ h_H (hkf h_k0 h_k1 h_k2 h_k3 h_k4 h_k5 h_k6 h_k7) w_H, nX8 cI cZ cQ h_k0 w_k0, nX8 cI cZ cQ h_k1 w_k1, nX8 cI cZ cQ h_k2 w_k2, nX8 cI cZ cQ h_k3 w_k3, nX8 cI cZ cQ h_k4 w_k4, nX8 cI cZ cQ h_k5 w_k5, nX8 cI cZ cQ h_k6 w_k6, nX8 cI cZ cQ h_k7 w_k7, nX7 cI cZ cQ h_x w_x, nX6 cI cZ cQ h_T (h_w 0) (h_L 0) (h_P 0) w_T, nX4 cI cZ cQ h_L (h_w 0) w_L, nX4 cI cZ cQ h_P (h_w 0) w_P, nX6 cI cZ cQ h_C (h_w 0) (h_M 0) (h_Q 0) w_C, nX4 cI cZ cQ h_M (h_w 0) w_M, nX4 cI cZ cQ h_Q (h_w 0) w_Q, nX0 cI cZ cQ h_d (h_w 0) (h_T 0) w_d, nX1 cI cZ cQ h_F (h_G 0) w_F, nX4 cI cZ cQ h_G (h_w 0) w_G, nX5 cI cZ cQ h_r (h_w 0) w_r, nX3 cI cZ cQ h_n (h_w 0) w_n, nX10 cI cZ cQ h_m w_m]) [(0, .ref bS), (1, .ref (h_t 0)), (2, .ref (h_m 0)), (3, .int y3)] []) : ∀ (w_t : Pk) (w_w : Pk) (w_b : Pk) (w_l : Pk) (w_H : Pk) (w_k0 : Pk) (w_k1 : Pk) (w_k2 : Pk) (w_k3 : Pk) (w_k4 : Pk) (w_k5 : Pk) (w_k6 : Pk) (w_k7 : Pk) (w_x : Pk) (w_T : Pk) (w_L : Pk) (w_P : Pk) (w_C : Pk) (w_M : Pk) (w_Q : Pk) (w_d : Pk) (w_F : Pk) (w_G : Pk) (w_r : Pk) (w_n : Pk) (w_m : Pk) (y3 : Int32), fL_b885 L xs rec18 w_t w_w w_b w_l w_H w_k0 w_k1 w_k2 w_k3 w_k4 w_k5 w_k6 w_k7 w_x w_T w_L w_P w_C w_M w_Q w_d w_F w_G w_r w_n w_m y3 = some 1 → BK X 8 177 15831 885 ([nX9 cI cZ cQ h_t (h_w 0) (h_b 0) (h_l 0) (h_H 0) (h_x 0) (h_T 0) (h_C 0) (h_d 0) (h_F 0) (h_r 0) (h_n 0) w_t, nX8 cI cZ cQ h_w w_w, nX8 cI cZ cQ h_b w_b, nX8 cI cZ cQ h_l w_l, nX2 cI cZ cQ h_H (hkf h_k0 h_k1 h_k2 h_k3 h_k4 h_k5 h_k6 h_k7) w_H, nX8 cI cZ cQ h_k0 w_k0, nX8 cI cZ cQ h_k1 w_k1, nX8 cI cZ cQ h_k2 w_k2, nX8 cI cZ cQ h_k3 w_k3, nX8 cI cZ cQ h_k4 w_k4, nX8 cI cZ cQ h_k5 w_k5, nX8 cI cZ cQ h_k6 w_k6, nX8 cI cZ cQ h_k7 w_k7, nX7 cI cZ cQ h_x w_x, nX6 cI cZ cQ h_T (h_w 0) (h_L 0) (h_P 0) w_T, nX4 cI cZ cQ h_L (h_w 0) w_L, nX4 cI cZ cQ h_P (h_w 0) w_P, nX6 cI cZ cQ h_C (h_w 0) (h_M 0) (h_Q 0) w_C, nX4 cI cZ cQ h_M (h_w 0) w_M, nX4 cI cZ cQ h_Q (h_w 0) w_Q, nX0 cI cZ cQ h_d (h_w 0) (h_T 0) w_d, nX1 cI cZ cQ h_F (h_G 0) w_F, nX4 cI cZ cQ h_G (h_w 0) w_G, nX5 cI cZ cQ h_r (h_w 0) w_r, nX3 cI cZ cQ h_n (h_w 0) w_n, nX10 cI cZ cQ h_m w_m]) [(0, .ref bS), (1, .ref (h_t 0)), (2, .ref (h_m 0)), (3, .int y3)] [] := by
  intro w_t w_w w_b w_l w_H w_k0 w_k1 w_k2 w_k3 w_k4 w_k5 w_k6 w_k7 w_x w_T w_L w_P w_C w_M w_Q w_d w_F w_G w_r w_n w_m y3 hf
  unfold fL_b885 at hf
  refine r_goto O 1795 dL_law_885 (by decide) ?_
  exact lwB1795 O S E rec18 hrec18 _ _ _ _ _ _ _ _ _ _ _ _ _ _ _ _ _ _ _ _ _ _ _ _ _ _ _ hf
set_option maxHeartbeats 40000000 in
set_option maxRecDepth 100000 in
theorem lwB837 {X : Cx} {cI cZ cQ : ClassId} {bS L : Nat} {xs : Nat → Int32} (O : OK X cL_law 8 RL wB room_1 cI cZ cQ) (S : SX X bS L xs) (E : ∀ {pc : Nat} {ws : List va_W} {lv : List (Nat × Value)}, decode cL_law pc = .ok (.ireturn, 1) → BK X 8 177 15831 pc ws lv [.int 1]) {h_t h_w h_b h_l h_H h_k0 h_k1 h_k2 h_k3 h_k4 h_k5 h_k6 h_k7 h_x h_T h_L h_P h_C h_M h_Q h_d h_F h_G h_r h_n h_m : Nat → Nat} (rec18 : Pk → Pk → Pk → Pk → Pk → Pk → Pk → Pk → Pk → Pk → Pk → Pk → Pk → Pk → Pk → Pk → Pk → Pk → Pk → Pk → Pk → Pk → Pk → Pk → Pk → Pk → Int32 → Option Int32) (hrec18 : ∀ (w_t : Pk) (w_w : Pk) (w_b : Pk) (w_l : Pk) (w_H : Pk) (w_k0 : Pk) (w_k1 : Pk) (w_k2 : Pk) (w_k3 : Pk) (w_k4 : Pk) (w_k5 : Pk) (w_k6 : Pk) (w_k7 : Pk) (w_x : Pk) (w_T : Pk) (w_L : Pk) (w_P : Pk) (w_C : Pk) (w_M : Pk) (w_Q : Pk) (w_d : Pk) (w_F : Pk) (w_G : Pk) (w_r : Pk) (w_n : Pk) (w_m : Pk) (y3 : Int32), rec18 w_t w_w w_b w_l w_H w_k0 w_k1 w_k2 w_k3 w_k4 w_k5 w_k6 w_k7 w_x w_T w_L w_P w_C w_M w_Q w_d w_F w_G w_r w_n w_m y3 = some 1 → BK X 8 177 15831 18 ([nX9 cI cZ cQ h_t (h_w 0) (h_b 0) (h_l 0) (h_H 0) (h_x 0) (h_T 0) (h_C 0) (h_d 0) (h_F 0) (h_r 0) (h_n 0) w_t, nX8 cI cZ cQ h_w w_w, nX8 cI cZ cQ h_b w_b, nX8 cI cZ cQ h_l w_l, nX2 cI cZ cQ h_H (hkf h_k0 h_k1 h_k2 h_k3 h_k4 h_k5 h_k6 h_k7) w_H, nX8 cI cZ cQ h_k0 w_k0, nX8 cI cZ cQ h_k1 w_k1, nX8 cI cZ cQ h_k2 w_k2, nX8 cI cZ cQ h_k3 w_k3, nX8 cI cZ cQ h_k4 w_k4, nX8 cI cZ cQ h_k5 w_k5, nX8 cI cZ cQ h_k6 w_k6, nX8 cI cZ cQ h_k7 w_k7, nX7 cI cZ cQ h_x w_x, nX6 cI cZ cQ h_T (h_w 0) (h_L 0) (h_P 0) w_T, nX4 cI cZ cQ h_L (h_w 0) w_L, nX4 cI cZ cQ h_P (h_w 0) w_P, nX6 cI cZ cQ h_C (h_w 0) (h_M 0) (h_Q 0) w_C, nX4 cI cZ cQ h_M (h_w 0) w_M, nX4 cI cZ cQ h_Q (h_w 0) w_Q, nX0 cI cZ cQ h_d (h_w 0) (h_T 0) w_d, nX1 cI cZ cQ h_F (h_G 0) w_F, nX4 cI cZ cQ h_G (h_w 0) w_G, nX5 cI cZ cQ h_r (h_w 0) w_r, nX3 cI cZ cQ h_n (h_w 0) w_n, nX10 cI cZ cQ h_m w_m]) [(0, .ref bS), (1, .ref (h_t 0)), (2, .ref (h_m 0)), (3, .int y3)] []) : ∀ (w_t : Pk) (w_w : Pk) (w_b : Pk) (w_l : Pk) (w_H : Pk) (w_k0 : Pk) (w_k1 : Pk) (w_k2 : Pk) (w_k3 : Pk) (w_k4 : Pk) (w_k5 : Pk) (w_k6 : Pk) (w_k7 : Pk) (w_x : Pk) (w_T : Pk) (w_L : Pk) (w_P : Pk) (w_C : Pk) (w_M : Pk) (w_Q : Pk) (w_d : Pk) (w_F : Pk) (w_G : Pk) (w_r : Pk) (w_n : Pk) (w_m : Pk) (y3 : Int32), fL_b837 L xs rec18 w_t w_w w_b w_l w_H w_k0 w_k1 w_k2 w_k3 w_k4 w_k5 w_k6 w_k7 w_x w_T w_L w_P w_C w_M w_Q w_d w_F w_G w_r w_n w_m y3 = some 1 → BK X 8 177 15831 837 ([nX9 cI cZ cQ h_t (h_w 0) (h_b 0) (h_l 0) (h_H 0) (h_x 0) (h_T 0) (h_C 0) (h_d 0) (h_F 0) (h_r 0) (h_n 0) w_t, nX8 cI cZ cQ h_w w_w, nX8 cI cZ cQ h_b w_b, nX8 cI cZ cQ h_l w_l, nX2 cI cZ cQ h_H (hkf h_k0 h_k1 h_k2 h_k3 h_k4 h_k5 h_k6 h_k7) w_H, nX8 cI cZ cQ h_k0 w_k0, nX8 cI cZ cQ h_k1 w_k1, nX8 cI cZ cQ h_k2 w_k2, nX8 cI cZ cQ h_k3 w_k3, nX8 cI cZ cQ h_k4 w_k4, nX8 cI cZ cQ h_k5 w_k5, nX8 cI cZ cQ h_k6 w_k6, nX8 cI cZ cQ h_k7 w_k7, nX7 cI cZ cQ h_x w_x, nX6 cI cZ cQ h_T (h_w 0) (h_L 0) (h_P 0) w_T, nX4 cI cZ cQ h_L (h_w 0) w_L, nX4 cI cZ cQ h_P (h_w 0) w_P, nX6 cI cZ cQ h_C (h_w 0) (h_M 0) (h_Q 0) w_C, nX4 cI cZ cQ h_M (h_w 0) w_M, nX4 cI cZ cQ h_Q (h_w 0) w_Q, nX0 cI cZ cQ h_d (h_w 0) (h_T 0) w_d, nX1 cI cZ cQ h_F (h_G 0) w_F, nX4 cI cZ cQ h_G (h_w 0) w_G, nX5 cI cZ cQ h_r (h_w 0) w_r, nX3 cI cZ cQ h_n (h_w 0) w_n, nX10 cI cZ cQ h_m w_m]) [(0, .ref bS), (1, .ref (h_t 0)), (2, .ref (h_m 0)), (3, .int y3)] [] := by
  intro w_t w_w w_b w_l w_H w_k0 w_k1 w_k2 w_k3 w_k4 w_k5 w_k6 w_k7 w_x w_T w_L w_P w_C w_M w_Q w_d w_F w_G w_r w_n w_m y3 hf
  unfold fL_b837 at hf
  refine r_ald_n O 838 rfl 1 rfl dL_law_837 ?_
  refine r_ald_n O 839 rfl 0 rfl dL_law_838 ?_
  refine r_ild_n O 840 rfl 3 rfl dL_law_839 ?_
  refine r_ic O 841 rfl 1 (by decide) dL_law_840 ?_
  refine r_iadd O 842 rfl dL_law_841 ?_
  obtain ⟨x842, ex842, hin842, hf⟩ := qld_some hf
  refine r_sld O S 843 rfl hin842 dL_law_842 ?_
  rw [← ex842]
  obtain ⟨x843, p843_t, p843_b, p843_T, p843_L, p843_P, hq843, hf⟩ := qb6_some hf
  refine k_VD O 846 rfl (zX9_pieceLength (l := xl X) (D := xD X) (cI := cI) (cZ := cZ) (cQ := cQ) (h_t := h_t) (h_w := h_w) (h_b := h_b) (r_l := (h_l 0)) (r_H := (h_H 0)) (r_x := (h_x 0)) (h_T := h_T) (h_L := h_L) (h_P := h_P) (r_C := (h_C 0)) (r_d := (h_d 0)) (r_F := (h_F 0)) (r_r := (h_r 0)) (r_n := (h_n 0)) hq843) (gV mlL_118 mvX9_pieceLength izX9) rfl rfl rfl hdX9_pieceLength ⟨Nat.le_of_ble_eq_true rfl, Nat.le_of_ble_eq_true rfl⟩ rfl 0 rfl rfl rfl rfl (Nat.le_of_ble_eq_true rfl) ⟨Nat.le_of_ble_eq_true rfl, Nat.le_of_ble_eq_true rfl⟩ [0, 1, 2, 14, 15, 16] rfl rfl rfl ([nX9 cI cZ cQ h_t (h_w 0) (h_b 0) (h_l 0) (h_H 0) (h_x 0) (h_T 0) (h_C 0) (h_d 0) (h_F 0) (h_r 0) (h_n 0) p843_t, nX8 cI cZ cQ h_w w_w, nX8 cI cZ cQ h_b p843_b, nX8 cI cZ cQ h_l w_l, nX2 cI cZ cQ h_H (hkf h_k0 h_k1 h_k2 h_k3 h_k4 h_k5 h_k6 h_k7) w_H, nX8 cI cZ cQ h_k0 w_k0, nX8 cI cZ cQ h_k1 w_k1, nX8 cI cZ cQ h_k2 w_k2, nX8 cI cZ cQ h_k3 w_k3, nX8 cI cZ cQ h_k4 w_k4, nX8 cI cZ cQ h_k5 w_k5, nX8 cI cZ cQ h_k6 w_k6, nX8 cI cZ cQ h_k7 w_k7, nX7 cI cZ cQ h_x w_x, nX6 cI cZ cQ h_T (h_w 0) (h_L 0) (h_P 0) p843_T, nX4 cI cZ cQ h_L (h_w 0) p843_L, nX4 cI cZ cQ h_P (h_w 0) p843_P, nX6 cI cZ cQ h_C (h_w 0) (h_M 0) (h_Q 0) w_C, nX4 cI cZ cQ h_M (h_w 0) w_M, nX4 cI cZ cQ h_Q (h_w 0) w_Q, nX0 cI cZ cQ h_d (h_w 0) (h_T 0) w_d, nX1 cI cZ cQ h_F (h_G 0) w_F, nX4 cI cZ cQ h_G (h_w 0) w_G, nX5 cI cZ cQ h_r (h_w 0) w_r, nX3 cI cZ cQ h_n (h_w 0) w_n, nX10 cI cZ cQ h_m w_m]) rfl dL_law_843 ?_
  refine r_dst O 848 rfl [(4, .double x843), (0, .ref bS), (1, .ref (h_t 0)), (2, .ref (h_m 0)), (3, .int y3)] dL_law_846 (by decide) rfl ?_
  refine r_ald_n O 849 rfl 3 rfl dL_law_848 ?_
  refine r_ald_n O 850 rfl 1 rfl dL_law_849 ?_
  refine r_ild_n O 851 rfl 4 rfl dL_law_850 ?_
  refine r_ic O 852 rfl 1 (by decide) dL_law_851 ?_
  refine r_iadd O 853 rfl dL_law_852 ?_
  obtain ⟨x853, ex853, hin853, hf⟩ := qld_some hf
  refine r_sld O S 854 rfl hin853 dL_law_853 ?_
  rw [← ex853]
  obtain ⟨x854, p854_m, hq854, hf⟩ := qb2_some hf
  refine k_VD O 857 rfl (zX10_pieceLength (l := xl X) (D := xD X) (cI := cI) (cZ := cZ) (cQ := cQ) (h_t := h_m) hq854) (gV mlL_122 mvX10_pieceLength izX10) rfl rfl rfl hdX10_pieceLength ⟨Nat.le_of_ble_eq_true rfl, Nat.le_of_ble_eq_true rfl⟩ rfl 25 rfl rfl rfl rfl (Nat.le_of_ble_eq_true rfl) ⟨Nat.le_of_ble_eq_true rfl, Nat.le_of_ble_eq_true rfl⟩ [25] rfl rfl rfl ([nX9 cI cZ cQ h_t (h_w 0) (h_b 0) (h_l 0) (h_H 0) (h_x 0) (h_T 0) (h_C 0) (h_d 0) (h_F 0) (h_r 0) (h_n 0) p843_t, nX8 cI cZ cQ h_w w_w, nX8 cI cZ cQ h_b p843_b, nX8 cI cZ cQ h_l w_l, nX2 cI cZ cQ h_H (hkf h_k0 h_k1 h_k2 h_k3 h_k4 h_k5 h_k6 h_k7) w_H, nX8 cI cZ cQ h_k0 w_k0, nX8 cI cZ cQ h_k1 w_k1, nX8 cI cZ cQ h_k2 w_k2, nX8 cI cZ cQ h_k3 w_k3, nX8 cI cZ cQ h_k4 w_k4, nX8 cI cZ cQ h_k5 w_k5, nX8 cI cZ cQ h_k6 w_k6, nX8 cI cZ cQ h_k7 w_k7, nX7 cI cZ cQ h_x w_x, nX6 cI cZ cQ h_T (h_w 0) (h_L 0) (h_P 0) p843_T, nX4 cI cZ cQ h_L (h_w 0) p843_L, nX4 cI cZ cQ h_P (h_w 0) p843_P, nX6 cI cZ cQ h_C (h_w 0) (h_M 0) (h_Q 0) w_C, nX4 cI cZ cQ h_M (h_w 0) w_M, nX4 cI cZ cQ h_Q (h_w 0) w_Q, nX0 cI cZ cQ h_d (h_w 0) (h_T 0) w_d, nX1 cI cZ cQ h_F (h_G 0) w_F, nX4 cI cZ cQ h_G (h_w 0) w_G, nX5 cI cZ cQ h_r (h_w 0) w_r, nX3 cI cZ cQ h_n (h_w 0) w_n, nX10 cI cZ cQ h_m p854_m]) rfl dL_law_854 ?_
  refine r_dst O 859 rfl [(6, .double x854), (4, .double x843), (0, .ref bS), (1, .ref (h_t 0)), (2, .ref (h_m 0)), (3, .int y3)] dL_law_857 (by decide) rfl ?_
  refine r_dld O 861 rfl 1 rfl dL_law_859 ?_
  refine r_dld O 863 rfl 0 rfl dL_law_861 ?_
  refine r_dcmp O 864 rfl dL_law_863 ?_
  refine r_if_eq O 867 rfl 885 dL_law_864 (by decide) (fun hc864 => ?_) (fun hc864 => ?_)
  · rw [if_pos hc864] at hf
    refine r_lv [2, 3, 4, 5] rfl ?_
    exact lwB885 O S E rec18 hrec18 _ _ _ _ _ _ _ _ _ _ _ _ _ _ _ _ _ _ _ _ _ _ _ _ _ _ _ hf
  · rw [if_neg hc864] at hf
    refine r_dld O 869 rfl 1 rfl dL_law_867 ?_
    refine r_dld O 871 rfl 1 rfl dL_law_869 ?_
    refine r_dcmp O 872 rfl dL_law_871 ?_
    refine r_if_eq O 875 rfl 883 dL_law_872 (by decide) (fun hc872 => ?_) (fun hc872 => ?_)
    · rw [if_pos hc872] at hf
      refine r_ic O 884 rfl 0 (by decide) dL_law_883 ?_
      exact absurd (qe1 hf) (by decide)
    · rw [if_neg hc872] at hf
      refine r_dld O 877 rfl 0 rfl dL_law_875 ?_
      refine r_dld O 879 rfl 0 rfl dL_law_877 ?_
      refine r_dcmp O 880 rfl dL_law_879 ?_
      refine r_if_ne O 883 rfl 885 dL_law_880 (by decide) (fun hc880 => ?_) (fun hc880 => ?_)
      · rw [if_neg hc880] at hf
        refine r_lv [2, 3, 4, 5] rfl ?_
        exact lwB885 O S E rec18 hrec18 _ _ _ _ _ _ _ _ _ _ _ _ _ _ _ _ _ _ _ _ _ _ _ _ _ _ _ hf
      · rw [if_pos hc880] at hf
        refine r_ic O 884 rfl 0 (by decide) dL_law_883 ?_
        exact absurd (qe1 hf) (by decide)
set_option maxHeartbeats 40000000 in
set_option maxRecDepth 100000 in
theorem lwB588 {X : Cx} {cI cZ cQ : ClassId} {bS L : Nat} {xs : Nat → Int32} (O : OK X cL_law 8 RL wB room_1 cI cZ cQ) (S : SX X bS L xs) (E : ∀ {pc : Nat} {ws : List va_W} {lv : List (Nat × Value)}, decode cL_law pc = .ok (.ireturn, 1) → BK X 8 177 15831 pc ws lv [.int 1]) {h_t h_w h_b h_l h_H h_k0 h_k1 h_k2 h_k3 h_k4 h_k5 h_k6 h_k7 h_x h_T h_L h_P h_C h_M h_Q h_d h_F h_G h_r h_n h_m : Nat → Nat} (rec18 : Pk → Pk → Pk → Pk → Pk → Pk → Pk → Pk → Pk → Pk → Pk → Pk → Pk → Pk → Pk → Pk → Pk → Pk → Pk → Pk → Pk → Pk → Pk → Pk → Pk → Pk → Int32 → Option Int32) (hrec18 : ∀ (w_t : Pk) (w_w : Pk) (w_b : Pk) (w_l : Pk) (w_H : Pk) (w_k0 : Pk) (w_k1 : Pk) (w_k2 : Pk) (w_k3 : Pk) (w_k4 : Pk) (w_k5 : Pk) (w_k6 : Pk) (w_k7 : Pk) (w_x : Pk) (w_T : Pk) (w_L : Pk) (w_P : Pk) (w_C : Pk) (w_M : Pk) (w_Q : Pk) (w_d : Pk) (w_F : Pk) (w_G : Pk) (w_r : Pk) (w_n : Pk) (w_m : Pk) (y3 : Int32), rec18 w_t w_w w_b w_l w_H w_k0 w_k1 w_k2 w_k3 w_k4 w_k5 w_k6 w_k7 w_x w_T w_L w_P w_C w_M w_Q w_d w_F w_G w_r w_n w_m y3 = some 1 → BK X 8 177 15831 18 ([nX9 cI cZ cQ h_t (h_w 0) (h_b 0) (h_l 0) (h_H 0) (h_x 0) (h_T 0) (h_C 0) (h_d 0) (h_F 0) (h_r 0) (h_n 0) w_t, nX8 cI cZ cQ h_w w_w, nX8 cI cZ cQ h_b w_b, nX8 cI cZ cQ h_l w_l, nX2 cI cZ cQ h_H (hkf h_k0 h_k1 h_k2 h_k3 h_k4 h_k5 h_k6 h_k7) w_H, nX8 cI cZ cQ h_k0 w_k0, nX8 cI cZ cQ h_k1 w_k1, nX8 cI cZ cQ h_k2 w_k2, nX8 cI cZ cQ h_k3 w_k3, nX8 cI cZ cQ h_k4 w_k4, nX8 cI cZ cQ h_k5 w_k5, nX8 cI cZ cQ h_k6 w_k6, nX8 cI cZ cQ h_k7 w_k7, nX7 cI cZ cQ h_x w_x, nX6 cI cZ cQ h_T (h_w 0) (h_L 0) (h_P 0) w_T, nX4 cI cZ cQ h_L (h_w 0) w_L, nX4 cI cZ cQ h_P (h_w 0) w_P, nX6 cI cZ cQ h_C (h_w 0) (h_M 0) (h_Q 0) w_C, nX4 cI cZ cQ h_M (h_w 0) w_M, nX4 cI cZ cQ h_Q (h_w 0) w_Q, nX0 cI cZ cQ h_d (h_w 0) (h_T 0) w_d, nX1 cI cZ cQ h_F (h_G 0) w_F, nX4 cI cZ cQ h_G (h_w 0) w_G, nX5 cI cZ cQ h_r (h_w 0) w_r, nX3 cI cZ cQ h_n (h_w 0) w_n, nX10 cI cZ cQ h_m w_m]) [(0, .ref bS), (1, .ref (h_t 0)), (2, .ref (h_m 0)), (3, .int y3)] []) : ∀ (w_t : Pk) (w_w : Pk) (w_b : Pk) (w_l : Pk) (w_H : Pk) (w_k0 : Pk) (w_k1 : Pk) (w_k2 : Pk) (w_k3 : Pk) (w_k4 : Pk) (w_k5 : Pk) (w_k6 : Pk) (w_k7 : Pk) (w_x : Pk) (w_T : Pk) (w_L : Pk) (w_P : Pk) (w_C : Pk) (w_M : Pk) (w_Q : Pk) (w_d : Pk) (w_F : Pk) (w_G : Pk) (w_r : Pk) (w_n : Pk) (w_m : Pk) (y3 : Int32), fL_b588 L xs rec18 w_t w_w w_b w_l w_H w_k0 w_k1 w_k2 w_k3 w_k4 w_k5 w_k6 w_k7 w_x w_T w_L w_P w_C w_M w_Q w_d w_F w_G w_r w_n w_m y3 = some 1 → BK X 8 177 15831 588 ([nX9 cI cZ cQ h_t (h_w 0) (h_b 0) (h_l 0) (h_H 0) (h_x 0) (h_T 0) (h_C 0) (h_d 0) (h_F 0) (h_r 0) (h_n 0) w_t, nX8 cI cZ cQ h_w w_w, nX8 cI cZ cQ h_b w_b, nX8 cI cZ cQ h_l w_l, nX2 cI cZ cQ h_H (hkf h_k0 h_k1 h_k2 h_k3 h_k4 h_k5 h_k6 h_k7) w_H, nX8 cI cZ cQ h_k0 w_k0, nX8 cI cZ cQ h_k1 w_k1, nX8 cI cZ cQ h_k2 w_k2, nX8 cI cZ cQ h_k3 w_k3, nX8 cI cZ cQ h_k4 w_k4, nX8 cI cZ cQ h_k5 w_k5, nX8 cI cZ cQ h_k6 w_k6, nX8 cI cZ cQ h_k7 w_k7, nX7 cI cZ cQ h_x w_x, nX6 cI cZ cQ h_T (h_w 0) (h_L 0) (h_P 0) w_T, nX4 cI cZ cQ h_L (h_w 0) w_L, nX4 cI cZ cQ h_P (h_w 0) w_P, nX6 cI cZ cQ h_C (h_w 0) (h_M 0) (h_Q 0) w_C, nX4 cI cZ cQ h_M (h_w 0) w_M, nX4 cI cZ cQ h_Q (h_w 0) w_Q, nX0 cI cZ cQ h_d (h_w 0) (h_T 0) w_d, nX1 cI cZ cQ h_F (h_G 0) w_F, nX4 cI cZ cQ h_G (h_w 0) w_G, nX5 cI cZ cQ h_r (h_w 0) w_r, nX3 cI cZ cQ h_n (h_w 0) w_n, nX10 cI cZ cQ h_m w_m]) [(0, .ref bS), (1, .ref (h_t 0)), (2, .ref (h_m 0)), (3, .int y3)] [] := by
  intro w_t w_w w_b w_l w_H w_k0 w_k1 w_k2 w_k3 w_k4 w_k5 w_k6 w_k7 w_x w_T w_L w_P w_C w_M w_Q w_d w_F w_G w_r w_n w_m y3 hf
  unfold fL_b588 at hf
  refine r_ald_n O 589 rfl 1 rfl dL_law_588 ?_
  obtain ⟨x589, p589_x, hq589, hf⟩ := qb2_some hf
  refine k_VI O 592 rfl (zX9_clearText (l := xl X) (D := xD X) (cI := cI) (cZ := cZ) (cQ := cQ) (h_t := h_t) (r_w := (h_w 0)) (r_b := (h_b 0)) (r_l := (h_l 0)) (r_H := (h_H 0)) (h_x := h_x) (r_T := (h_T 0)) (r_C := (h_C 0)) (r_d := (h_d 0)) (r_F := (h_F 0)) (r_r := (h_r 0)) (r_n := (h_n 0)) hq589) (gV mlL_66 mvX9_clearText izX9) rfl rfl rfl hdX9_clearText ⟨Nat.le_of_ble_eq_true rfl, Nat.le_of_ble_eq_true rfl⟩ rfl 0 rfl rfl rfl rfl (Nat.le_of_ble_eq_true rfl) ⟨Nat.le_of_ble_eq_true rfl, Nat.le_of_ble_eq_true rfl⟩ [0, 13] rfl rfl rfl ([nX9 cI cZ cQ h_t (h_w 0) (h_b 0) (h_l 0) (h_H 0) (h_x 0) (h_T 0) (h_C 0) (h_d 0) (h_F 0) (h_r 0) (h_n 0) w_t, nX8 cI cZ cQ h_w w_w, nX8 cI cZ cQ h_b w_b, nX8 cI cZ cQ h_l w_l, nX2 cI cZ cQ h_H (hkf h_k0 h_k1 h_k2 h_k3 h_k4 h_k5 h_k6 h_k7) w_H, nX8 cI cZ cQ h_k0 w_k0, nX8 cI cZ cQ h_k1 w_k1, nX8 cI cZ cQ h_k2 w_k2, nX8 cI cZ cQ h_k3 w_k3, nX8 cI cZ cQ h_k4 w_k4, nX8 cI cZ cQ h_k5 w_k5, nX8 cI cZ cQ h_k6 w_k6, nX8 cI cZ cQ h_k7 w_k7, nX7 cI cZ cQ h_x p589_x, nX6 cI cZ cQ h_T (h_w 0) (h_L 0) (h_P 0) w_T, nX4 cI cZ cQ h_L (h_w 0) w_L, nX4 cI cZ cQ h_P (h_w 0) w_P, nX6 cI cZ cQ h_C (h_w 0) (h_M 0) (h_Q 0) w_C, nX4 cI cZ cQ h_M (h_w 0) w_M, nX4 cI cZ cQ h_Q (h_w 0) w_Q, nX0 cI cZ cQ h_d (h_w 0) (h_T 0) w_d, nX1 cI cZ cQ h_F (h_G 0) w_F, nX4 cI cZ cQ h_G (h_w 0) w_G, nX5 cI cZ cQ h_r (h_w 0) w_r, nX3 cI cZ cQ h_n (h_w 0) w_n, nX10 cI cZ cQ h_m w_m]) rfl dL_law_589 ?_
  refine r_ald_n O 593 rfl 2 rfl dL_law_592 ?_
  obtain ⟨x593, p593_m, hq593, hf⟩ := qb2_some hf
  refine k_VI O 596 rfl (zX10_clearText (l := xl X) (D := xD X) (cI := cI) (cZ := cZ) (cQ := cQ) (h_t := h_m) hq593) (gV mlL_69 mvX10_clearText izX10) rfl rfl rfl hdX10_clearText ⟨Nat.le_of_ble_eq_true rfl, Nat.le_of_ble_eq_true rfl⟩ rfl 25 rfl rfl rfl rfl (Nat.le_of_ble_eq_true rfl) ⟨Nat.le_of_ble_eq_true rfl, Nat.le_of_ble_eq_true rfl⟩ [25] rfl rfl rfl ([nX9 cI cZ cQ h_t (h_w 0) (h_b 0) (h_l 0) (h_H 0) (h_x 0) (h_T 0) (h_C 0) (h_d 0) (h_F 0) (h_r 0) (h_n 0) w_t, nX8 cI cZ cQ h_w w_w, nX8 cI cZ cQ h_b w_b, nX8 cI cZ cQ h_l w_l, nX2 cI cZ cQ h_H (hkf h_k0 h_k1 h_k2 h_k3 h_k4 h_k5 h_k6 h_k7) w_H, nX8 cI cZ cQ h_k0 w_k0, nX8 cI cZ cQ h_k1 w_k1, nX8 cI cZ cQ h_k2 w_k2, nX8 cI cZ cQ h_k3 w_k3, nX8 cI cZ cQ h_k4 w_k4, nX8 cI cZ cQ h_k5 w_k5, nX8 cI cZ cQ h_k6 w_k6, nX8 cI cZ cQ h_k7 w_k7, nX7 cI cZ cQ h_x p589_x, nX6 cI cZ cQ h_T (h_w 0) (h_L 0) (h_P 0) w_T, nX4 cI cZ cQ h_L (h_w 0) w_L, nX4 cI cZ cQ h_P (h_w 0) w_P, nX6 cI cZ cQ h_C (h_w 0) (h_M 0) (h_Q 0) w_C, nX4 cI cZ cQ h_M (h_w 0) w_M, nX4 cI cZ cQ h_Q (h_w 0) w_Q, nX0 cI cZ cQ h_d (h_w 0) (h_T 0) w_d, nX1 cI cZ cQ h_F (h_G 0) w_F, nX4 cI cZ cQ h_G (h_w 0) w_G, nX5 cI cZ cQ h_r (h_w 0) w_r, nX3 cI cZ cQ h_n (h_w 0) w_n, nX10 cI cZ cQ h_m p593_m]) rfl dL_law_593 ?_
  refine r_icmp_eq O 599 rfl 1795 dL_law_596 (by decide) (fun hc596 => ?_) (fun hc596 => ?_)
  · rw [if_pos hc596] at hf
    exact lwB1795 O S E rec18 hrec18 _ _ _ _ _ _ _ _ _ _ _ _ _ _ _ _ _ _ _ _ _ _ _ _ _ _ _ hf
  · rw [if_neg hc596] at hf
    refine r_ic O 600 rfl 0 (by decide) dL_law_599 ?_
    exact absurd (qe1 hf) (by decide)
set_option maxHeartbeats 40000000 in
set_option maxRecDepth 100000 in
theorem lwB1484 {X : Cx} {cI cZ cQ : ClassId} {bS L : Nat} {xs : Nat → Int32} (O : OK X cL_law 8 RL wB room_1 cI cZ cQ) (S : SX X bS L xs) (E : ∀ {pc : Nat} {ws : List va_W} {lv : List (Nat × Value)}, decode cL_law pc = .ok (.ireturn, 1) → BK X 8 177 15831 pc ws lv [.int 1]) {h_t h_w h_b h_l h_H h_k0 h_k1 h_k2 h_k3 h_k4 h_k5 h_k6 h_k7 h_x h_T h_L h_P h_C h_M h_Q h_d h_F h_G h_r h_n h_m : Nat → Nat} (rec18 : Pk → Pk → Pk → Pk → Pk → Pk → Pk → Pk → Pk → Pk → Pk → Pk → Pk → Pk → Pk → Pk → Pk → Pk → Pk → Pk → Pk → Pk → Pk → Pk → Pk → Pk → Int32 → Option Int32) (hrec18 : ∀ (w_t : Pk) (w_w : Pk) (w_b : Pk) (w_l : Pk) (w_H : Pk) (w_k0 : Pk) (w_k1 : Pk) (w_k2 : Pk) (w_k3 : Pk) (w_k4 : Pk) (w_k5 : Pk) (w_k6 : Pk) (w_k7 : Pk) (w_x : Pk) (w_T : Pk) (w_L : Pk) (w_P : Pk) (w_C : Pk) (w_M : Pk) (w_Q : Pk) (w_d : Pk) (w_F : Pk) (w_G : Pk) (w_r : Pk) (w_n : Pk) (w_m : Pk) (y3 : Int32), rec18 w_t w_w w_b w_l w_H w_k0 w_k1 w_k2 w_k3 w_k4 w_k5 w_k6 w_k7 w_x w_T w_L w_P w_C w_M w_Q w_d w_F w_G w_r w_n w_m y3 = some 1 → BK X 8 177 15831 18 ([nX9 cI cZ cQ h_t (h_w 0) (h_b 0) (h_l 0) (h_H 0) (h_x 0) (h_T 0) (h_C 0) (h_d 0) (h_F 0) (h_r 0) (h_n 0) w_t, nX8 cI cZ cQ h_w w_w, nX8 cI cZ cQ h_b w_b, nX8 cI cZ cQ h_l w_l, nX2 cI cZ cQ h_H (hkf h_k0 h_k1 h_k2 h_k3 h_k4 h_k5 h_k6 h_k7) w_H, nX8 cI cZ cQ h_k0 w_k0, nX8 cI cZ cQ h_k1 w_k1, nX8 cI cZ cQ h_k2 w_k2, nX8 cI cZ cQ h_k3 w_k3, nX8 cI cZ cQ h_k4 w_k4, nX8 cI cZ cQ h_k5 w_k5, nX8 cI cZ cQ h_k6 w_k6, nX8 cI cZ cQ h_k7 w_k7, nX7 cI cZ cQ h_x w_x, nX6 cI cZ cQ h_T (h_w 0) (h_L 0) (h_P 0) w_T, nX4 cI cZ cQ h_L (h_w 0) w_L, nX4 cI cZ cQ h_P (h_w 0) w_P, nX6 cI cZ cQ h_C (h_w 0) (h_M 0) (h_Q 0) w_C, nX4 cI cZ cQ h_M (h_w 0) w_M, nX4 cI cZ cQ h_Q (h_w 0) w_Q, nX0 cI cZ cQ h_d (h_w 0) (h_T 0) w_d, nX1 cI cZ cQ h_F (h_G 0) w_F, nX4 cI cZ cQ h_G (h_w 0) w_G, nX5 cI cZ cQ h_r (h_w 0) w_r, nX3 cI cZ cQ h_n (h_w 0) w_n, nX10 cI cZ cQ h_m w_m]) [(0, .ref bS), (1, .ref (h_t 0)), (2, .ref (h_m 0)), (3, .int y3)] []) : ∀ (w_t : Pk) (w_w : Pk) (w_b : Pk) (w_l : Pk) (w_H : Pk) (w_k0 : Pk) (w_k1 : Pk) (w_k2 : Pk) (w_k3 : Pk) (w_k4 : Pk) (w_k5 : Pk) (w_k6 : Pk) (w_k7 : Pk) (w_x : Pk) (w_T : Pk) (w_L : Pk) (w_P : Pk) (w_C : Pk) (w_M : Pk) (w_Q : Pk) (w_d : Pk) (w_F : Pk) (w_G : Pk) (w_r : Pk) (w_n : Pk) (w_m : Pk) (y3 : Int32), fL_b1484 L xs rec18 w_t w_w w_b w_l w_H w_k0 w_k1 w_k2 w_k3 w_k4 w_k5 w_k6 w_k7 w_x w_T w_L w_P w_C w_M w_Q w_d w_F w_G w_r w_n w_m y3 = some 1 → BK X 8 177 15831 1484 ([nX9 cI cZ cQ h_t (h_w 0) (h_b 0) (h_l 0) (h_H 0) (h_x 0) (h_T 0) (h_C 0) (h_d 0) (h_F 0) (h_r 0) (h_n 0) w_t, nX8 cI cZ cQ h_w w_w, nX8 cI cZ cQ h_b w_b, nX8 cI cZ cQ h_l w_l, nX2 cI cZ cQ h_H (hkf h_k0 h_k1 h_k2 h_k3 h_k4 h_k5 h_k6 h_k7) w_H, nX8 cI cZ cQ h_k0 w_k0, nX8 cI cZ cQ h_k1 w_k1, nX8 cI cZ cQ h_k2 w_k2, nX8 cI cZ cQ h_k3 w_k3, nX8 cI cZ cQ h_k4 w_k4, nX8 cI cZ cQ h_k5 w_k5, nX8 cI cZ cQ h_k6 w_k6, nX8 cI cZ cQ h_k7 w_k7, nX7 cI cZ cQ h_x w_x, nX6 cI cZ cQ h_T (h_w 0) (h_L 0) (h_P 0) w_T, nX4 cI cZ cQ h_L (h_w 0) w_L, nX4 cI cZ cQ h_P (h_w 0) w_P, nX6 cI cZ cQ h_C (h_w 0) (h_M 0) (h_Q 0) w_C, nX4 cI cZ cQ h_M (h_w 0) w_M, nX4 cI cZ cQ h_Q (h_w 0) w_Q, nX0 cI cZ cQ h_d (h_w 0) (h_T 0) w_d, nX1 cI cZ cQ h_F (h_G 0) w_F, nX4 cI cZ cQ h_G (h_w 0) w_G, nX5 cI cZ cQ h_r (h_w 0) w_r, nX3 cI cZ cQ h_n (h_w 0) w_n, nX10 cI cZ cQ h_m w_m]) [(0, .ref bS), (1, .ref (h_t 0)), (2, .ref (h_m 0)), (3, .int y3)] [] := by
  intro w_t w_w w_b w_l w_H w_k0 w_k1 w_k2 w_k3 w_k4 w_k5 w_k6 w_k7 w_x w_T w_L w_P w_C w_M w_Q w_d w_F w_G w_r w_n w_m y3 hf
  unfold fL_b1484 at hf
  refine r_ald_n O 1485 rfl 1 rfl dL_law_1484 ?_
  refine r_ald_n O 1486 rfl 0 rfl dL_law_1485 ?_
  refine r_ild_n O 1487 rfl 3 rfl dL_law_1486 ?_
  refine r_ic O 1488 rfl 1 (by decide) dL_law_1487 ?_
  refine r_iadd O 1489 rfl dL_law_1488 ?_
  obtain ⟨x1489, ex1489, hin1489, hf⟩ := qld_some hf
  refine r_sld O S 1490 rfl hin1489 dL_law_1489 ?_
  rw [← ex1489]
  refine r_ald_n O 1491 rfl 0 rfl dL_law_1490 ?_
  refine r_ild_n O 1492 rfl 3 rfl dL_law_1491 ?_
  refine r_ic O 1493 rfl 2 (by decide) dL_law_1492 ?_
  refine r_iadd O 1494 rfl dL_law_1493 ?_
  obtain ⟨x1494, ex1494, hin1494, hf⟩ := qld_some hf
  refine r_sld O S 1495 rfl hin1494 dL_law_1494 ?_
  rw [← ex1494]
  obtain ⟨x1495, p1495_r, hq1495, hf⟩ := qb2_some hf
  refine k_VI O 1498 rfl (zX9_seenPoints (l := xl X) (D := xD X) (cI := cI) (cZ := cZ) (cQ := cQ) (h_t := h_t) (h_w := h_w) (r_b := (h_b 0)) (r_l := (h_l 0)) (r_H := (h_H 0)) (r_x := (h_x 0)) (r_T := (h_T 0)) (r_C := (h_C 0)) (r_d := (h_d 0)) (r_F := (h_F 0)) (h_r := h_r) (r_n := (h_n 0)) hq1495) (gV mlL_174 mvX9_seenPoints izX9) rfl rfl rfl hdX9_seenPoints ⟨Nat.le_of_ble_eq_true rfl, Nat.le_of_ble_eq_true rfl⟩ rfl 0 rfl rfl rfl rfl (Nat.le_of_ble_eq_true rfl) ⟨Nat.le_of_ble_eq_true rfl, Nat.le_of_ble_eq_true rfl⟩ [0, 1, 23] rfl rfl rfl ([nX9 cI cZ cQ h_t (h_w 0) (h_b 0) (h_l 0) (h_H 0) (h_x 0) (h_T 0) (h_C 0) (h_d 0) (h_F 0) (h_r 0) (h_n 0) w_t, nX8 cI cZ cQ h_w w_w, nX8 cI cZ cQ h_b w_b, nX8 cI cZ cQ h_l w_l, nX2 cI cZ cQ h_H (hkf h_k0 h_k1 h_k2 h_k3 h_k4 h_k5 h_k6 h_k7) w_H, nX8 cI cZ cQ h_k0 w_k0, nX8 cI cZ cQ h_k1 w_k1, nX8 cI cZ cQ h_k2 w_k2, nX8 cI cZ cQ h_k3 w_k3, nX8 cI cZ cQ h_k4 w_k4, nX8 cI cZ cQ h_k5 w_k5, nX8 cI cZ cQ h_k6 w_k6, nX8 cI cZ cQ h_k7 w_k7, nX7 cI cZ cQ h_x w_x, nX6 cI cZ cQ h_T (h_w 0) (h_L 0) (h_P 0) w_T, nX4 cI cZ cQ h_L (h_w 0) w_L, nX4 cI cZ cQ h_P (h_w 0) w_P, nX6 cI cZ cQ h_C (h_w 0) (h_M 0) (h_Q 0) w_C, nX4 cI cZ cQ h_M (h_w 0) w_M, nX4 cI cZ cQ h_Q (h_w 0) w_Q, nX0 cI cZ cQ h_d (h_w 0) (h_T 0) w_d, nX1 cI cZ cQ h_F (h_G 0) w_F, nX4 cI cZ cQ h_G (h_w 0) w_G, nX5 cI cZ cQ h_r (h_w 0) p1495_r, nX3 cI cZ cQ h_n (h_w 0) w_n, nX10 cI cZ cQ h_m w_m]) rfl dL_law_1495 ?_
  refine r_ald_n O 1499 rfl 2 rfl dL_law_1498 ?_
  refine r_ald_n O 1500 rfl 0 rfl dL_law_1499 ?_
  refine r_ild_n O 1501 rfl 3 rfl dL_law_1500 ?_
  refine r_ic O 1502 rfl 1 (by decide) dL_law_1501 ?_
  refine r_iadd O 1503 rfl dL_law_1502 ?_
  obtain ⟨x1503, ex1503, hin1503, hf⟩ := qld_some hf
  refine r_sld O S 1504 rfl hin1503 dL_law_1503 ?_
  rw [← ex1503]
  refine r_ald_n O 1505 rfl 0 rfl dL_law_1504 ?_
  refine r_ild_n O 1506 rfl 3 rfl dL_law_1505 ?_
  refine r_ic O 1507 rfl 2 (by decide) dL_law_1506 ?_
  refine r_iadd O 1508 rfl dL_law_1507 ?_
  obtain ⟨x1508, ex1508, hin1508, hf⟩ := qld_some hf
  refine r_sld O S 1509 rfl hin1508 dL_law_1508 ?_
  rw [← ex1508]
  obtain ⟨x1509, p1509_m, hq1509, hf⟩ := qb2_some hf
  refine k_VI O 1512 rfl (zX10_seenPoints (l := xl X) (D := xD X) (cI := cI) (cZ := cZ) (cQ := cQ) (h_t := h_m) hq1509) (gV mlL_177 mvX10_seenPoints izX10) rfl rfl rfl hdX10_seenPoints ⟨Nat.le_of_ble_eq_true rfl, Nat.le_of_ble_eq_true rfl⟩ rfl 25 rfl rfl rfl rfl (Nat.le_of_ble_eq_true rfl) ⟨Nat.le_of_ble_eq_true rfl, Nat.le_of_ble_eq_true rfl⟩ [25] rfl rfl rfl ([nX9 cI cZ cQ h_t (h_w 0) (h_b 0) (h_l 0) (h_H 0) (h_x 0) (h_T 0) (h_C 0) (h_d 0) (h_F 0) (h_r 0) (h_n 0) w_t, nX8 cI cZ cQ h_w w_w, nX8 cI cZ cQ h_b w_b, nX8 cI cZ cQ h_l w_l, nX2 cI cZ cQ h_H (hkf h_k0 h_k1 h_k2 h_k3 h_k4 h_k5 h_k6 h_k7) w_H, nX8 cI cZ cQ h_k0 w_k0, nX8 cI cZ cQ h_k1 w_k1, nX8 cI cZ cQ h_k2 w_k2, nX8 cI cZ cQ h_k3 w_k3, nX8 cI cZ cQ h_k4 w_k4, nX8 cI cZ cQ h_k5 w_k5, nX8 cI cZ cQ h_k6 w_k6, nX8 cI cZ cQ h_k7 w_k7, nX7 cI cZ cQ h_x w_x, nX6 cI cZ cQ h_T (h_w 0) (h_L 0) (h_P 0) w_T, nX4 cI cZ cQ h_L (h_w 0) w_L, nX4 cI cZ cQ h_P (h_w 0) w_P, nX6 cI cZ cQ h_C (h_w 0) (h_M 0) (h_Q 0) w_C, nX4 cI cZ cQ h_M (h_w 0) w_M, nX4 cI cZ cQ h_Q (h_w 0) w_Q, nX0 cI cZ cQ h_d (h_w 0) (h_T 0) w_d, nX1 cI cZ cQ h_F (h_G 0) w_F, nX4 cI cZ cQ h_G (h_w 0) w_G, nX5 cI cZ cQ h_r (h_w 0) p1495_r, nX3 cI cZ cQ h_n (h_w 0) w_n, nX10 cI cZ cQ h_m p1509_m]) rfl dL_law_1509 ?_
  refine r_icmp_eq O 1515 rfl 1795 dL_law_1512 (by decide) (fun hc1512 => ?_) (fun hc1512 => ?_)
  · rw [if_pos hc1512] at hf
    exact lwB1795 O S E rec18 hrec18 _ _ _ _ _ _ _ _ _ _ _ _ _ _ _ _ _ _ _ _ _ _ _ _ _ _ _ hf
  · rw [if_neg hc1512] at hf
    refine r_ic O 1516 rfl 0 (by decide) dL_law_1515 ?_
    exact absurd (qe1 hf) (by decide)
set_option maxHeartbeats 40000000 in
set_option maxRecDepth 100000 in
theorem lwB1358 {X : Cx} {cI cZ cQ : ClassId} {bS L : Nat} {xs : Nat → Int32} (O : OK X cL_law 8 RL wB room_1 cI cZ cQ) (S : SX X bS L xs) (E : ∀ {pc : Nat} {ws : List va_W} {lv : List (Nat × Value)}, decode cL_law pc = .ok (.ireturn, 1) → BK X 8 177 15831 pc ws lv [.int 1]) {h_t h_w h_b h_l h_H h_k0 h_k1 h_k2 h_k3 h_k4 h_k5 h_k6 h_k7 h_x h_T h_L h_P h_C h_M h_Q h_d h_F h_G h_r h_n h_m : Nat → Nat} (rec18 : Pk → Pk → Pk → Pk → Pk → Pk → Pk → Pk → Pk → Pk → Pk → Pk → Pk → Pk → Pk → Pk → Pk → Pk → Pk → Pk → Pk → Pk → Pk → Pk → Pk → Pk → Int32 → Option Int32) (hrec18 : ∀ (w_t : Pk) (w_w : Pk) (w_b : Pk) (w_l : Pk) (w_H : Pk) (w_k0 : Pk) (w_k1 : Pk) (w_k2 : Pk) (w_k3 : Pk) (w_k4 : Pk) (w_k5 : Pk) (w_k6 : Pk) (w_k7 : Pk) (w_x : Pk) (w_T : Pk) (w_L : Pk) (w_P : Pk) (w_C : Pk) (w_M : Pk) (w_Q : Pk) (w_d : Pk) (w_F : Pk) (w_G : Pk) (w_r : Pk) (w_n : Pk) (w_m : Pk) (y3 : Int32), rec18 w_t w_w w_b w_l w_H w_k0 w_k1 w_k2 w_k3 w_k4 w_k5 w_k6 w_k7 w_x w_T w_L w_P w_C w_M w_Q w_d w_F w_G w_r w_n w_m y3 = some 1 → BK X 8 177 15831 18 ([nX9 cI cZ cQ h_t (h_w 0) (h_b 0) (h_l 0) (h_H 0) (h_x 0) (h_T 0) (h_C 0) (h_d 0) (h_F 0) (h_r 0) (h_n 0) w_t, nX8 cI cZ cQ h_w w_w, nX8 cI cZ cQ h_b w_b, nX8 cI cZ cQ h_l w_l, nX2 cI cZ cQ h_H (hkf h_k0 h_k1 h_k2 h_k3 h_k4 h_k5 h_k6 h_k7) w_H, nX8 cI cZ cQ h_k0 w_k0, nX8 cI cZ cQ h_k1 w_k1, nX8 cI cZ cQ h_k2 w_k2, nX8 cI cZ cQ h_k3 w_k3, nX8 cI cZ cQ h_k4 w_k4, nX8 cI cZ cQ h_k5 w_k5, nX8 cI cZ cQ h_k6 w_k6, nX8 cI cZ cQ h_k7 w_k7, nX7 cI cZ cQ h_x w_x, nX6 cI cZ cQ h_T (h_w 0) (h_L 0) (h_P 0) w_T, nX4 cI cZ cQ h_L (h_w 0) w_L, nX4 cI cZ cQ h_P (h_w 0) w_P, nX6 cI cZ cQ h_C (h_w 0) (h_M 0) (h_Q 0) w_C, nX4 cI cZ cQ h_M (h_w 0) w_M, nX4 cI cZ cQ h_Q (h_w 0) w_Q, nX0 cI cZ cQ h_d (h_w 0) (h_T 0) w_d, nX1 cI cZ cQ h_F (h_G 0) w_F, nX4 cI cZ cQ h_G (h_w 0) w_G, nX5 cI cZ cQ h_r (h_w 0) w_r, nX3 cI cZ cQ h_n (h_w 0) w_n, nX10 cI cZ cQ h_m w_m]) [(0, .ref bS), (1, .ref (h_t 0)), (2, .ref (h_m 0)), (3, .int y3)] []) : ∀ (w_t : Pk) (w_w : Pk) (w_b : Pk) (w_l : Pk) (w_H : Pk) (w_k0 : Pk) (w_k1 : Pk) (w_k2 : Pk) (w_k3 : Pk) (w_k4 : Pk) (w_k5 : Pk) (w_k6 : Pk) (w_k7 : Pk) (w_x : Pk) (w_T : Pk) (w_L : Pk) (w_P : Pk) (w_C : Pk) (w_M : Pk) (w_Q : Pk) (w_d : Pk) (w_F : Pk) (w_G : Pk) (w_r : Pk) (w_n : Pk) (w_m : Pk) (y3 : Int32), fL_b1358 L xs rec18 w_t w_w w_b w_l w_H w_k0 w_k1 w_k2 w_k3 w_k4 w_k5 w_k6 w_k7 w_x w_T w_L w_P w_C w_M w_Q w_d w_F w_G w_r w_n w_m y3 = some 1 → BK X 8 177 15831 1358 ([nX9 cI cZ cQ h_t (h_w 0) (h_b 0) (h_l 0) (h_H 0) (h_x 0) (h_T 0) (h_C 0) (h_d 0) (h_F 0) (h_r 0) (h_n 0) w_t, nX8 cI cZ cQ h_w w_w, nX8 cI cZ cQ h_b w_b, nX8 cI cZ cQ h_l w_l, nX2 cI cZ cQ h_H (hkf h_k0 h_k1 h_k2 h_k3 h_k4 h_k5 h_k6 h_k7) w_H, nX8 cI cZ cQ h_k0 w_k0, nX8 cI cZ cQ h_k1 w_k1, nX8 cI cZ cQ h_k2 w_k2, nX8 cI cZ cQ h_k3 w_k3, nX8 cI cZ cQ h_k4 w_k4, nX8 cI cZ cQ h_k5 w_k5, nX8 cI cZ cQ h_k6 w_k6, nX8 cI cZ cQ h_k7 w_k7, nX7 cI cZ cQ h_x w_x, nX6 cI cZ cQ h_T (h_w 0) (h_L 0) (h_P 0) w_T, nX4 cI cZ cQ h_L (h_w 0) w_L, nX4 cI cZ cQ h_P (h_w 0) w_P, nX6 cI cZ cQ h_C (h_w 0) (h_M 0) (h_Q 0) w_C, nX4 cI cZ cQ h_M (h_w 0) w_M, nX4 cI cZ cQ h_Q (h_w 0) w_Q, nX0 cI cZ cQ h_d (h_w 0) (h_T 0) w_d, nX1 cI cZ cQ h_F (h_G 0) w_F, nX4 cI cZ cQ h_G (h_w 0) w_G, nX5 cI cZ cQ h_r (h_w 0) w_r, nX3 cI cZ cQ h_n (h_w 0) w_n, nX10 cI cZ cQ h_m w_m]) [(0, .ref bS), (1, .ref (h_t 0)), (2, .ref (h_m 0)), (3, .int y3)] [] := by
  intro w_t w_w w_b w_l w_H w_k0 w_k1 w_k2 w_k3 w_k4 w_k5 w_k6 w_k7 w_x w_T w_L w_P w_C w_M w_Q w_d w_F w_G w_r w_n w_m y3 hf
  unfold fL_b1358 at hf
  refine r_ald_n O 1359 rfl 1 rfl dL_law_1358 ?_
  refine r_ald_n O 1360 rfl 0 rfl dL_law_1359 ?_
  refine r_ild_n O 1361 rfl 3 rfl dL_law_1360 ?_
  refine r_ic O 1362 rfl 1 (by decide) dL_law_1361 ?_
  refine r_iadd O 1363 rfl dL_law_1362 ?_
  obtain ⟨x1363, ex1363, hin1363, hf⟩ := qld_some hf
  refine r_sld O S 1364 rfl hin1363 dL_law_1363 ?_
  rw [← ex1363]
  refine r_ald_n O 1365 rfl 0 rfl dL_law_1364 ?_
  refine r_ild_n O 1366 rfl 3 rfl dL_law_1365 ?_
  refine r_ic O 1367 rfl 2 (by decide) dL_law_1366 ?_
  refine r_iadd O 1368 rfl dL_law_1367 ?_
  obtain ⟨x1368, ex1368, hin1368, hf⟩ := qld_some hf
  refine r_sld O S 1369 rfl hin1368 dL_law_1368 ?_
  rw [← ex1368]
  refine r_ald_n O 1370 rfl 0 rfl dL_law_1369 ?_
  refine r_ild_n O 1371 rfl 3 rfl dL_law_1370 ?_
  refine r_ic O 1372 rfl 3 (by decide) dL_law_1371 ?_
  refine r_iadd O 1373 rfl dL_law_1372 ?_
  obtain ⟨x1373, ex1373, hin1373, hf⟩ := qld_some hf
  refine r_sld O S 1374 rfl hin1373 dL_law_1373 ?_
  rw [← ex1373]
  refine r_ald_n O 1375 rfl 0 rfl dL_law_1374 ?_
  refine r_ild_n O 1376 rfl 3 rfl dL_law_1375 ?_
  refine r_ic O 1377 rfl 4 (by decide) dL_law_1376 ?_
  refine r_iadd O 1378 rfl dL_law_1377 ?_
  obtain ⟨x1378, ex1378, hin1378, hf⟩ := qld_some hf
  refine r_sld O S 1379 rfl hin1378 dL_law_1378 ?_
  rw [← ex1378]
  refine r_ald_n O 1380 rfl 0 rfl dL_law_1379 ?_
  refine r_ild_n O 1381 rfl 3 rfl dL_law_1380 ?_
  refine r_ic O 1382 rfl 5 (by decide) dL_law_1381 ?_
  refine r_iadd O 1383 rfl dL_law_1382 ?_
  obtain ⟨x1383, ex1383, hin1383, hf⟩ := qld_some hf
  refine r_sld O S 1384 rfl hin1383 dL_law_1383 ?_
  rw [← ex1383]
  obtain ⟨x1384, p1384_r, hq1384, hf⟩ := qb2_some hf
  refine k_VI O 1387 rfl (zX9_paneCount (l := xl X) (D := xD X) (cI := cI) (cZ := cZ) (cQ := cQ) (h_t := h_t) (h_w := h_w) (r_b := (h_b 0)) (r_l := (h_l 0)) (r_H := (h_H 0)) (r_x := (h_x 0)) (r_T := (h_T 0)) (r_C := (h_C 0)) (r_d := (h_d 0)) (r_F := (h_F 0)) (h_r := h_r) (r_n := (h_n 0)) hq1384) (gV mlL_166 mvX9_paneCount izX9) rfl rfl rfl hdX9_paneCount ⟨Nat.le_of_ble_eq_true rfl, Nat.le_of_ble_eq_true rfl⟩ rfl 0 rfl rfl rfl rfl (Nat.le_of_ble_eq_true rfl) ⟨Nat.le_of_ble_eq_true rfl, Nat.le_of_ble_eq_true rfl⟩ [0, 1, 23] rfl rfl rfl ([nX9 cI cZ cQ h_t (h_w 0) (h_b 0) (h_l 0) (h_H 0) (h_x 0) (h_T 0) (h_C 0) (h_d 0) (h_F 0) (h_r 0) (h_n 0) w_t, nX8 cI cZ cQ h_w w_w, nX8 cI cZ cQ h_b w_b, nX8 cI cZ cQ h_l w_l, nX2 cI cZ cQ h_H (hkf h_k0 h_k1 h_k2 h_k3 h_k4 h_k5 h_k6 h_k7) w_H, nX8 cI cZ cQ h_k0 w_k0, nX8 cI cZ cQ h_k1 w_k1, nX8 cI cZ cQ h_k2 w_k2, nX8 cI cZ cQ h_k3 w_k3, nX8 cI cZ cQ h_k4 w_k4, nX8 cI cZ cQ h_k5 w_k5, nX8 cI cZ cQ h_k6 w_k6, nX8 cI cZ cQ h_k7 w_k7, nX7 cI cZ cQ h_x w_x, nX6 cI cZ cQ h_T (h_w 0) (h_L 0) (h_P 0) w_T, nX4 cI cZ cQ h_L (h_w 0) w_L, nX4 cI cZ cQ h_P (h_w 0) w_P, nX6 cI cZ cQ h_C (h_w 0) (h_M 0) (h_Q 0) w_C, nX4 cI cZ cQ h_M (h_w 0) w_M, nX4 cI cZ cQ h_Q (h_w 0) w_Q, nX0 cI cZ cQ h_d (h_w 0) (h_T 0) w_d, nX1 cI cZ cQ h_F (h_G 0) w_F, nX4 cI cZ cQ h_G (h_w 0) w_G, nX5 cI cZ cQ h_r (h_w 0) p1384_r, nX3 cI cZ cQ h_n (h_w 0) w_n, nX10 cI cZ cQ h_m w_m]) rfl dL_law_1384 ?_
  refine r_ald_n O 1388 rfl 2 rfl dL_law_1387 ?_
  refine r_ald_n O 1389 rfl 0 rfl dL_law_1388 ?_
  refine r_ild_n O 1390 rfl 3 rfl dL_law_1389 ?_
  refine r_ic O 1391 rfl 1 (by decide) dL_law_1390 ?_
  refine r_iadd O 1392 rfl dL_law_1391 ?_
  obtain ⟨x1392, ex1392, hin1392, hf⟩ := qld_some hf
  refine r_sld O S 1393 rfl hin1392 dL_law_1392 ?_
  rw [← ex1392]
  refine r_ald_n O 1394 rfl 0 rfl dL_law_1393 ?_
  refine r_ild_n O 1395 rfl 3 rfl dL_law_1394 ?_
  refine r_ic O 1396 rfl 2 (by decide) dL_law_1395 ?_
  refine r_iadd O 1397 rfl dL_law_1396 ?_
  obtain ⟨x1397, ex1397, hin1397, hf⟩ := qld_some hf
  refine r_sld O S 1398 rfl hin1397 dL_law_1397 ?_
  rw [← ex1397]
  refine r_ald_n O 1399 rfl 0 rfl dL_law_1398 ?_
  refine r_ild_n O 1400 rfl 3 rfl dL_law_1399 ?_
  refine r_ic O 1401 rfl 3 (by decide) dL_law_1400 ?_
  refine r_iadd O 1402 rfl dL_law_1401 ?_
  obtain ⟨x1402, ex1402, hin1402, hf⟩ := qld_some hf
  refine r_sld O S 1403 rfl hin1402 dL_law_1402 ?_
  rw [← ex1402]
  refine r_ald_n O 1404 rfl 0 rfl dL_law_1403 ?_
  refine r_ild_n O 1405 rfl 3 rfl dL_law_1404 ?_
  refine r_ic O 1406 rfl 4 (by decide) dL_law_1405 ?_
  refine r_iadd O 1407 rfl dL_law_1406 ?_
  obtain ⟨x1407, ex1407, hin1407, hf⟩ := qld_some hf
  refine r_sld O S 1408 rfl hin1407 dL_law_1407 ?_
  rw [← ex1407]
  refine r_ald_n O 1409 rfl 0 rfl dL_law_1408 ?_
  refine r_ild_n O 1410 rfl 3 rfl dL_law_1409 ?_
  refine r_ic O 1411 rfl 5 (by decide) dL_law_1410 ?_
  refine r_iadd O 1412 rfl dL_law_1411 ?_
  obtain ⟨x1412, ex1412, hin1412, hf⟩ := qld_some hf
  refine r_sld O S 1413 rfl hin1412 dL_law_1412 ?_
  rw [← ex1412]
  obtain ⟨x1413, p1413_m, hq1413, hf⟩ := qb2_some hf
  refine k_VI O 1416 rfl (zX10_paneCount (l := xl X) (D := xD X) (cI := cI) (cZ := cZ) (cQ := cQ) (h_t := h_m) hq1413) (gV mlL_169 mvX10_paneCount izX10) rfl rfl rfl hdX10_paneCount ⟨Nat.le_of_ble_eq_true rfl, Nat.le_of_ble_eq_true rfl⟩ rfl 25 rfl rfl rfl rfl (Nat.le_of_ble_eq_true rfl) ⟨Nat.le_of_ble_eq_true rfl, Nat.le_of_ble_eq_true rfl⟩ [25] rfl rfl rfl ([nX9 cI cZ cQ h_t (h_w 0) (h_b 0) (h_l 0) (h_H 0) (h_x 0) (h_T 0) (h_C 0) (h_d 0) (h_F 0) (h_r 0) (h_n 0) w_t, nX8 cI cZ cQ h_w w_w, nX8 cI cZ cQ h_b w_b, nX8 cI cZ cQ h_l w_l, nX2 cI cZ cQ h_H (hkf h_k0 h_k1 h_k2 h_k3 h_k4 h_k5 h_k6 h_k7) w_H, nX8 cI cZ cQ h_k0 w_k0, nX8 cI cZ cQ h_k1 w_k1, nX8 cI cZ cQ h_k2 w_k2, nX8 cI cZ cQ h_k3 w_k3, nX8 cI cZ cQ h_k4 w_k4, nX8 cI cZ cQ h_k5 w_k5, nX8 cI cZ cQ h_k6 w_k6, nX8 cI cZ cQ h_k7 w_k7, nX7 cI cZ cQ h_x w_x, nX6 cI cZ cQ h_T (h_w 0) (h_L 0) (h_P 0) w_T, nX4 cI cZ cQ h_L (h_w 0) w_L, nX4 cI cZ cQ h_P (h_w 0) w_P, nX6 cI cZ cQ h_C (h_w 0) (h_M 0) (h_Q 0) w_C, nX4 cI cZ cQ h_M (h_w 0) w_M, nX4 cI cZ cQ h_Q (h_w 0) w_Q, nX0 cI cZ cQ h_d (h_w 0) (h_T 0) w_d, nX1 cI cZ cQ h_F (h_G 0) w_F, nX4 cI cZ cQ h_G (h_w 0) w_G, nX5 cI cZ cQ h_r (h_w 0) p1384_r, nX3 cI cZ cQ h_n (h_w 0) w_n, nX10 cI cZ cQ h_m p1413_m]) rfl dL_law_1413 ?_
  refine r_icmp_eq O 1419 rfl 1795 dL_law_1416 (by decide) (fun hc1416 => ?_) (fun hc1416 => ?_)
  · rw [if_pos hc1416] at hf
    exact lwB1795 O S E rec18 hrec18 _ _ _ _ _ _ _ _ _ _ _ _ _ _ _ _ _ _ _ _ _ _ _ _ _ _ _ hf
  · rw [if_neg hc1416] at hf
    refine r_ic O 1420 rfl 0 (by decide) dL_law_1419 ?_
    exact absurd (qe1 hf) (by decide)
set_option maxHeartbeats 40000000 in
set_option maxRecDepth 100000 in
theorem lwB975 {X : Cx} {cI cZ cQ : ClassId} {bS L : Nat} {xs : Nat → Int32} (O : OK X cL_law 8 RL wB room_1 cI cZ cQ) (S : SX X bS L xs) (E : ∀ {pc : Nat} {ws : List va_W} {lv : List (Nat × Value)}, decode cL_law pc = .ok (.ireturn, 1) → BK X 8 177 15831 pc ws lv [.int 1]) {h_t h_w h_b h_l h_H h_k0 h_k1 h_k2 h_k3 h_k4 h_k5 h_k6 h_k7 h_x h_T h_L h_P h_C h_M h_Q h_d h_F h_G h_r h_n h_m : Nat → Nat} (rec18 : Pk → Pk → Pk → Pk → Pk → Pk → Pk → Pk → Pk → Pk → Pk → Pk → Pk → Pk → Pk → Pk → Pk → Pk → Pk → Pk → Pk → Pk → Pk → Pk → Pk → Pk → Int32 → Option Int32) (hrec18 : ∀ (w_t : Pk) (w_w : Pk) (w_b : Pk) (w_l : Pk) (w_H : Pk) (w_k0 : Pk) (w_k1 : Pk) (w_k2 : Pk) (w_k3 : Pk) (w_k4 : Pk) (w_k5 : Pk) (w_k6 : Pk) (w_k7 : Pk) (w_x : Pk) (w_T : Pk) (w_L : Pk) (w_P : Pk) (w_C : Pk) (w_M : Pk) (w_Q : Pk) (w_d : Pk) (w_F : Pk) (w_G : Pk) (w_r : Pk) (w_n : Pk) (w_m : Pk) (y3 : Int32), rec18 w_t w_w w_b w_l w_H w_k0 w_k1 w_k2 w_k3 w_k4 w_k5 w_k6 w_k7 w_x w_T w_L w_P w_C w_M w_Q w_d w_F w_G w_r w_n w_m y3 = some 1 → BK X 8 177 15831 18 ([nX9 cI cZ cQ h_t (h_w 0) (h_b 0) (h_l 0) (h_H 0) (h_x 0) (h_T 0) (h_C 0) (h_d 0) (h_F 0) (h_r 0) (h_n 0) w_t, nX8 cI cZ cQ h_w w_w, nX8 cI cZ cQ h_b w_b, nX8 cI cZ cQ h_l w_l, nX2 cI cZ cQ h_H (hkf h_k0 h_k1 h_k2 h_k3 h_k4 h_k5 h_k6 h_k7) w_H, nX8 cI cZ cQ h_k0 w_k0, nX8 cI cZ cQ h_k1 w_k1, nX8 cI cZ cQ h_k2 w_k2, nX8 cI cZ cQ h_k3 w_k3, nX8 cI cZ cQ h_k4 w_k4, nX8 cI cZ cQ h_k5 w_k5, nX8 cI cZ cQ h_k6 w_k6, nX8 cI cZ cQ h_k7 w_k7, nX7 cI cZ cQ h_x w_x, nX6 cI cZ cQ h_T (h_w 0) (h_L 0) (h_P 0) w_T, nX4 cI cZ cQ h_L (h_w 0) w_L, nX4 cI cZ cQ h_P (h_w 0) w_P, nX6 cI cZ cQ h_C (h_w 0) (h_M 0) (h_Q 0) w_C, nX4 cI cZ cQ h_M (h_w 0) w_M, nX4 cI cZ cQ h_Q (h_w 0) w_Q, nX0 cI cZ cQ h_d (h_w 0) (h_T 0) w_d, nX1 cI cZ cQ h_F (h_G 0) w_F, nX4 cI cZ cQ h_G (h_w 0) w_G, nX5 cI cZ cQ h_r (h_w 0) w_r, nX3 cI cZ cQ h_n (h_w 0) w_n, nX10 cI cZ cQ h_m w_m]) [(0, .ref bS), (1, .ref (h_t 0)), (2, .ref (h_m 0)), (3, .int y3)] []) : ∀ (w_t : Pk) (w_w : Pk) (w_b : Pk) (w_l : Pk) (w_H : Pk) (w_k0 : Pk) (w_k1 : Pk) (w_k2 : Pk) (w_k3 : Pk) (w_k4 : Pk) (w_k5 : Pk) (w_k6 : Pk) (w_k7 : Pk) (w_x : Pk) (w_T : Pk) (w_L : Pk) (w_P : Pk) (w_C : Pk) (w_M : Pk) (w_Q : Pk) (w_d : Pk) (w_F : Pk) (w_G : Pk) (w_r : Pk) (w_n : Pk) (w_m : Pk) (y3 : Int32), fL_b975 L xs rec18 w_t w_w w_b w_l w_H w_k0 w_k1 w_k2 w_k3 w_k4 w_k5 w_k6 w_k7 w_x w_T w_L w_P w_C w_M w_Q w_d w_F w_G w_r w_n w_m y3 = some 1 → BK X 8 177 15831 975 ([nX9 cI cZ cQ h_t (h_w 0) (h_b 0) (h_l 0) (h_H 0) (h_x 0) (h_T 0) (h_C 0) (h_d 0) (h_F 0) (h_r 0) (h_n 0) w_t, nX8 cI cZ cQ h_w w_w, nX8 cI cZ cQ h_b w_b, nX8 cI cZ cQ h_l w_l, nX2 cI cZ cQ h_H (hkf h_k0 h_k1 h_k2 h_k3 h_k4 h_k5 h_k6 h_k7) w_H, nX8 cI cZ cQ h_k0 w_k0, nX8 cI cZ cQ h_k1 w_k1, nX8 cI cZ cQ h_k2 w_k2, nX8 cI cZ cQ h_k3 w_k3, nX8 cI cZ cQ h_k4 w_k4, nX8 cI cZ cQ h_k5 w_k5, nX8 cI cZ cQ h_k6 w_k6, nX8 cI cZ cQ h_k7 w_k7, nX7 cI cZ cQ h_x w_x, nX6 cI cZ cQ h_T (h_w 0) (h_L 0) (h_P 0) w_T, nX4 cI cZ cQ h_L (h_w 0) w_L, nX4 cI cZ cQ h_P (h_w 0) w_P, nX6 cI cZ cQ h_C (h_w 0) (h_M 0) (h_Q 0) w_C, nX4 cI cZ cQ h_M (h_w 0) w_M, nX4 cI cZ cQ h_Q (h_w 0) w_Q, nX0 cI cZ cQ h_d (h_w 0) (h_T 0) w_d, nX1 cI cZ cQ h_F (h_G 0) w_F, nX4 cI cZ cQ h_G (h_w 0) w_G, nX5 cI cZ cQ h_r (h_w 0) w_r, nX3 cI cZ cQ h_n (h_w 0) w_n, nX10 cI cZ cQ h_m w_m]) [(0, .ref bS), (1, .ref (h_t 0)), (2, .ref (h_m 0)), (3, .int y3)] [] := by
  intro w_t w_w w_b w_l w_H w_k0 w_k1 w_k2 w_k3 w_k4 w_k5 w_k6 w_k7 w_x w_T w_L w_P w_C w_M w_Q w_d w_F w_G w_r w_n w_m y3 hf
  unfold fL_b975 at hf
  refine r_ald_n O 976 rfl 1 rfl dL_law_975 ?_
  refine r_ald_n O 977 rfl 0 rfl dL_law_976 ?_
  refine r_ild_n O 978 rfl 3 rfl dL_law_977 ?_
  refine r_ic O 979 rfl 1 (by decide) dL_law_978 ?_
  refine r_iadd O 980 rfl dL_law_979 ?_
  obtain ⟨x980, ex980, hin980, hf⟩ := qld_some hf
  refine r_sld O S 981 rfl hin980 dL_law_980 ?_
  rw [← ex980]
  refine r_ald_n O 982 rfl 0 rfl dL_law_981 ?_
  refine r_ild_n O 983 rfl 3 rfl dL_law_982 ?_
  refine r_ic O 984 rfl 2 (by decide) dL_law_983 ?_
  refine r_iadd O 985 rfl dL_law_984 ?_
  obtain ⟨x985, ex985, hin985, hf⟩ := qld_some hf
  refine r_sld O S 986 rfl hin985 dL_law_985 ?_
  rw [← ex985]
  obtain ⟨x986, p986_t, p986_b, p986_T, p986_L, p986_P, p986_d, hq986, hf⟩ := qb7_some hf
  refine k_VI O 989 rfl (zX9_drawCount (l := xl X) (D := xD X) (cI := cI) (cZ := cZ) (cQ := cQ) (h_t := h_t) (h_w := h_w) (h_b := h_b) (r_l := (h_l 0)) (r_H := (h_H 0)) (r_x := (h_x 0)) (h_T := h_T) (h_L := h_L) (h_P := h_P) (r_C := (h_C 0)) (h_d := h_d) (r_F := (h_F 0)) (r_r := (h_r 0)) (r_n := (h_n 0)) hq986) (gV mlL_136 mvX9_drawCount izX9) rfl rfl rfl hdX9_drawCount ⟨Nat.le_of_ble_eq_true rfl, Nat.le_of_ble_eq_true rfl⟩ rfl 0 rfl rfl rfl rfl (Nat.le_of_ble_eq_true rfl) ⟨Nat.le_of_ble_eq_true rfl, Nat.le_of_ble_eq_true rfl⟩ [0, 1, 2, 14, 15, 16, 20] rfl rfl rfl ([nX9 cI cZ cQ h_t (h_w 0) (h_b 0) (h_l 0) (h_H 0) (h_x 0) (h_T 0) (h_C 0) (h_d 0) (h_F 0) (h_r 0) (h_n 0) p986_t, nX8 cI cZ cQ h_w w_w, nX8 cI cZ cQ h_b p986_b, nX8 cI cZ cQ h_l w_l, nX2 cI cZ cQ h_H (hkf h_k0 h_k1 h_k2 h_k3 h_k4 h_k5 h_k6 h_k7) w_H, nX8 cI cZ cQ h_k0 w_k0, nX8 cI cZ cQ h_k1 w_k1, nX8 cI cZ cQ h_k2 w_k2, nX8 cI cZ cQ h_k3 w_k3, nX8 cI cZ cQ h_k4 w_k4, nX8 cI cZ cQ h_k5 w_k5, nX8 cI cZ cQ h_k6 w_k6, nX8 cI cZ cQ h_k7 w_k7, nX7 cI cZ cQ h_x w_x, nX6 cI cZ cQ h_T (h_w 0) (h_L 0) (h_P 0) p986_T, nX4 cI cZ cQ h_L (h_w 0) p986_L, nX4 cI cZ cQ h_P (h_w 0) p986_P, nX6 cI cZ cQ h_C (h_w 0) (h_M 0) (h_Q 0) w_C, nX4 cI cZ cQ h_M (h_w 0) w_M, nX4 cI cZ cQ h_Q (h_w 0) w_Q, nX0 cI cZ cQ h_d (h_w 0) (h_T 0) p986_d, nX1 cI cZ cQ h_F (h_G 0) w_F, nX4 cI cZ cQ h_G (h_w 0) w_G, nX5 cI cZ cQ h_r (h_w 0) w_r, nX3 cI cZ cQ h_n (h_w 0) w_n, nX10 cI cZ cQ h_m w_m]) rfl dL_law_986 ?_
  refine r_ald_n O 990 rfl 2 rfl dL_law_989 ?_
  refine r_ald_n O 991 rfl 0 rfl dL_law_990 ?_
  refine r_ild_n O 992 rfl 3 rfl dL_law_991 ?_
  refine r_ic O 993 rfl 1 (by decide) dL_law_992 ?_
  refine r_iadd O 994 rfl dL_law_993 ?_
  obtain ⟨x994, ex994, hin994, hf⟩ := qld_some hf
  refine r_sld O S 995 rfl hin994 dL_law_994 ?_
  rw [← ex994]
  refine r_ald_n O 996 rfl 0 rfl dL_law_995 ?_
  refine r_ild_n O 997 rfl 3 rfl dL_law_996 ?_
  refine r_ic O 998 rfl 2 (by decide) dL_law_997 ?_
  refine r_iadd O 999 rfl dL_law_998 ?_
  obtain ⟨x999, ex999, hin999, hf⟩ := qld_some hf
  refine r_sld O S 1000 rfl hin999 dL_law_999 ?_
  rw [← ex999]
  obtain ⟨x1000, p1000_m, hq1000, hf⟩ := qb2_some hf
  refine k_VI O 1003 rfl (zX10_drawCount (l := xl X) (D := xD X) (cI := cI) (cZ := cZ) (cQ := cQ) (h_t := h_m) hq1000) (gV mlL_139 mvX10_drawCount izX10) rfl rfl rfl hdX10_drawCount ⟨Nat.le_of_ble_eq_true rfl, Nat.le_of_ble_eq_true rfl⟩ rfl 25 rfl rfl rfl rfl (Nat.le_of_ble_eq_true rfl) ⟨Nat.le_of_ble_eq_true rfl, Nat.le_of_ble_eq_true rfl⟩ [25] rfl rfl rfl ([nX9 cI cZ cQ h_t (h_w 0) (h_b 0) (h_l 0) (h_H 0) (h_x 0) (h_T 0) (h_C 0) (h_d 0) (h_F 0) (h_r 0) (h_n 0) p986_t, nX8 cI cZ cQ h_w w_w, nX8 cI cZ cQ h_b p986_b, nX8 cI cZ cQ h_l w_l, nX2 cI cZ cQ h_H (hkf h_k0 h_k1 h_k2 h_k3 h_k4 h_k5 h_k6 h_k7) w_H, nX8 cI cZ cQ h_k0 w_k0, nX8 cI cZ cQ h_k1 w_k1, nX8 cI cZ cQ h_k2 w_k2, nX8 cI cZ cQ h_k3 w_k3, nX8 cI cZ cQ h_k4 w_k4, nX8 cI cZ cQ h_k5 w_k5, nX8 cI cZ cQ h_k6 w_k6, nX8 cI cZ cQ h_k7 w_k7, nX7 cI cZ cQ h_x w_x, nX6 cI cZ cQ h_T (h_w 0) (h_L 0) (h_P 0) p986_T, nX4 cI cZ cQ h_L (h_w 0) p986_L, nX4 cI cZ cQ h_P (h_w 0) p986_P, nX6 cI cZ cQ h_C (h_w 0) (h_M 0) (h_Q 0) w_C, nX4 cI cZ cQ h_M (h_w 0) w_M, nX4 cI cZ cQ h_Q (h_w 0) w_Q, nX0 cI cZ cQ h_d (h_w 0) (h_T 0) p986_d, nX1 cI cZ cQ h_F (h_G 0) w_F, nX4 cI cZ cQ h_G (h_w 0) w_G, nX5 cI cZ cQ h_r (h_w 0) w_r, nX3 cI cZ cQ h_n (h_w 0) w_n, nX10 cI cZ cQ h_m p1000_m]) rfl dL_law_1000 ?_
  refine r_icmp_eq O 1006 rfl 1795 dL_law_1003 (by decide) (fun hc1003 => ?_) (fun hc1003 => ?_)
  · rw [if_pos hc1003] at hf
    exact lwB1795 O S E rec18 hrec18 _ _ _ _ _ _ _ _ _ _ _ _ _ _ _ _ _ _ _ _ _ _ _ _ _ _ _ hf
  · rw [if_neg hc1003] at hf
    refine r_ic O 1007 rfl 0 (by decide) dL_law_1006 ?_
    exact absurd (qe1 hf) (by decide)
set_option maxHeartbeats 40000000 in
set_option maxRecDepth 100000 in
theorem lwB1104 {X : Cx} {cI cZ cQ : ClassId} {bS L : Nat} {xs : Nat → Int32} (O : OK X cL_law 8 RL wB room_1 cI cZ cQ) (S : SX X bS L xs) (E : ∀ {pc : Nat} {ws : List va_W} {lv : List (Nat × Value)}, decode cL_law pc = .ok (.ireturn, 1) → BK X 8 177 15831 pc ws lv [.int 1]) {h_t h_w h_b h_l h_H h_k0 h_k1 h_k2 h_k3 h_k4 h_k5 h_k6 h_k7 h_x h_T h_L h_P h_C h_M h_Q h_d h_F h_G h_r h_n h_m : Nat → Nat} (rec18 : Pk → Pk → Pk → Pk → Pk → Pk → Pk → Pk → Pk → Pk → Pk → Pk → Pk → Pk → Pk → Pk → Pk → Pk → Pk → Pk → Pk → Pk → Pk → Pk → Pk → Pk → Int32 → Option Int32) (hrec18 : ∀ (w_t : Pk) (w_w : Pk) (w_b : Pk) (w_l : Pk) (w_H : Pk) (w_k0 : Pk) (w_k1 : Pk) (w_k2 : Pk) (w_k3 : Pk) (w_k4 : Pk) (w_k5 : Pk) (w_k6 : Pk) (w_k7 : Pk) (w_x : Pk) (w_T : Pk) (w_L : Pk) (w_P : Pk) (w_C : Pk) (w_M : Pk) (w_Q : Pk) (w_d : Pk) (w_F : Pk) (w_G : Pk) (w_r : Pk) (w_n : Pk) (w_m : Pk) (y3 : Int32), rec18 w_t w_w w_b w_l w_H w_k0 w_k1 w_k2 w_k3 w_k4 w_k5 w_k6 w_k7 w_x w_T w_L w_P w_C w_M w_Q w_d w_F w_G w_r w_n w_m y3 = some 1 → BK X 8 177 15831 18 ([nX9 cI cZ cQ h_t (h_w 0) (h_b 0) (h_l 0) (h_H 0) (h_x 0) (h_T 0) (h_C 0) (h_d 0) (h_F 0) (h_r 0) (h_n 0) w_t, nX8 cI cZ cQ h_w w_w, nX8 cI cZ cQ h_b w_b, nX8 cI cZ cQ h_l w_l, nX2 cI cZ cQ h_H (hkf h_k0 h_k1 h_k2 h_k3 h_k4 h_k5 h_k6 h_k7) w_H, nX8 cI cZ cQ h_k0 w_k0, nX8 cI cZ cQ h_k1 w_k1, nX8 cI cZ cQ h_k2 w_k2, nX8 cI cZ cQ h_k3 w_k3, nX8 cI cZ cQ h_k4 w_k4, nX8 cI cZ cQ h_k5 w_k5, nX8 cI cZ cQ h_k6 w_k6, nX8 cI cZ cQ h_k7 w_k7, nX7 cI cZ cQ h_x w_x, nX6 cI cZ cQ h_T (h_w 0) (h_L 0) (h_P 0) w_T, nX4 cI cZ cQ h_L (h_w 0) w_L, nX4 cI cZ cQ h_P (h_w 0) w_P, nX6 cI cZ cQ h_C (h_w 0) (h_M 0) (h_Q 0) w_C, nX4 cI cZ cQ h_M (h_w 0) w_M, nX4 cI cZ cQ h_Q (h_w 0) w_Q, nX0 cI cZ cQ h_d (h_w 0) (h_T 0) w_d, nX1 cI cZ cQ h_F (h_G 0) w_F, nX4 cI cZ cQ h_G (h_w 0) w_G, nX5 cI cZ cQ h_r (h_w 0) w_r, nX3 cI cZ cQ h_n (h_w 0) w_n, nX10 cI cZ cQ h_m w_m]) [(0, .ref bS), (1, .ref (h_t 0)), (2, .ref (h_m 0)), (3, .int y3)] []) : ∀ (w_t : Pk) (w_w : Pk) (w_b : Pk) (w_l : Pk) (w_H : Pk) (w_k0 : Pk) (w_k1 : Pk) (w_k2 : Pk) (w_k3 : Pk) (w_k4 : Pk) (w_k5 : Pk) (w_k6 : Pk) (w_k7 : Pk) (w_x : Pk) (w_T : Pk) (w_L : Pk) (w_P : Pk) (w_C : Pk) (w_M : Pk) (w_Q : Pk) (w_d : Pk) (w_F : Pk) (w_G : Pk) (w_r : Pk) (w_n : Pk) (w_m : Pk) (y3 : Int32), fL_b1104 L xs rec18 w_t w_w w_b w_l w_H w_k0 w_k1 w_k2 w_k3 w_k4 w_k5 w_k6 w_k7 w_x w_T w_L w_P w_C w_M w_Q w_d w_F w_G w_r w_n w_m y3 = some 1 → BK X 8 177 15831 1104 ([nX9 cI cZ cQ h_t (h_w 0) (h_b 0) (h_l 0) (h_H 0) (h_x 0) (h_T 0) (h_C 0) (h_d 0) (h_F 0) (h_r 0) (h_n 0) w_t, nX8 cI cZ cQ h_w w_w, nX8 cI cZ cQ h_b w_b, nX8 cI cZ cQ h_l w_l, nX2 cI cZ cQ h_H (hkf h_k0 h_k1 h_k2 h_k3 h_k4 h_k5 h_k6 h_k7) w_H, nX8 cI cZ cQ h_k0 w_k0, nX8 cI cZ cQ h_k1 w_k1, nX8 cI cZ cQ h_k2 w_k2, nX8 cI cZ cQ h_k3 w_k3, nX8 cI cZ cQ h_k4 w_k4, nX8 cI cZ cQ h_k5 w_k5, nX8 cI cZ cQ h_k6 w_k6, nX8 cI cZ cQ h_k7 w_k7, nX7 cI cZ cQ h_x w_x, nX6 cI cZ cQ h_T (h_w 0) (h_L 0) (h_P 0) w_T, nX4 cI cZ cQ h_L (h_w 0) w_L, nX4 cI cZ cQ h_P (h_w 0) w_P, nX6 cI cZ cQ h_C (h_w 0) (h_M 0) (h_Q 0) w_C, nX4 cI cZ cQ h_M (h_w 0) w_M, nX4 cI cZ cQ h_Q (h_w 0) w_Q, nX0 cI cZ cQ h_d (h_w 0) (h_T 0) w_d, nX1 cI cZ cQ h_F (h_G 0) w_F, nX4 cI cZ cQ h_G (h_w 0) w_G, nX5 cI cZ cQ h_r (h_w 0) w_r, nX3 cI cZ cQ h_n (h_w 0) w_n, nX10 cI cZ cQ h_m w_m]) [(0, .ref bS), (1, .ref (h_t 0)), (2, .ref (h_m 0)), (3, .int y3)] [] := by
  intro w_t w_w w_b w_l w_H w_k0 w_k1 w_k2 w_k3 w_k4 w_k5 w_k6 w_k7 w_x w_T w_L w_P w_C w_M w_Q w_d w_F w_G w_r w_n w_m y3 hf
  unfold fL_b1104 at hf
  refine r_ald_n O 1105 rfl 1 rfl dL_law_1104 ?_
  refine r_ald_n O 1106 rfl 0 rfl dL_law_1105 ?_
  refine r_ild_n O 1107 rfl 3 rfl dL_law_1106 ?_
  refine r_ic O 1108 rfl 1 (by decide) dL_law_1107 ?_
  refine r_iadd O 1109 rfl dL_law_1108 ?_
  obtain ⟨x1109, ex1109, hin1109, hf⟩ := qld_some hf
  refine r_sld O S 1110 rfl hin1109 dL_law_1109 ?_
  rw [← ex1109]
  refine r_ald_n O 1111 rfl 0 rfl dL_law_1110 ?_
  refine r_ild_n O 1112 rfl 3 rfl dL_law_1111 ?_
  refine r_ic O 1113 rfl 2 (by decide) dL_law_1112 ?_
  refine r_iadd O 1114 rfl dL_law_1113 ?_
  obtain ⟨x1114, ex1114, hin1114, hf⟩ := qld_some hf
  refine r_sld O S 1115 rfl hin1114 dL_law_1114 ?_
  rw [← ex1114]
  refine r_ald_n O 1116 rfl 0 rfl dL_law_1115 ?_
  refine r_ild_n O 1117 rfl 3 rfl dL_law_1116 ?_
  refine r_ic O 1118 rfl 3 (by decide) dL_law_1117 ?_
  refine r_iadd O 1119 rfl dL_law_1118 ?_
  obtain ⟨x1119, ex1119, hin1119, hf⟩ := qld_some hf
  refine r_sld O S 1120 rfl hin1119 dL_law_1119 ?_
  rw [← ex1119]
  refine r_ald_n O 1121 rfl 0 rfl dL_law_1120 ?_
  refine r_ild_n O 1122 rfl 3 rfl dL_law_1121 ?_
  refine r_ic O 1123 rfl 4 (by decide) dL_law_1122 ?_
  refine r_iadd O 1124 rfl dL_law_1123 ?_
  obtain ⟨x1124, ex1124, hin1124, hf⟩ := qld_some hf
  refine r_sld O S 1125 rfl hin1124 dL_law_1124 ?_
  rw [← ex1124]
  refine r_ald_n O 1126 rfl 0 rfl dL_law_1125 ?_
  refine r_ild_n O 1127 rfl 3 rfl dL_law_1126 ?_
  refine r_ic O 1128 rfl 5 (by decide) dL_law_1127 ?_
  refine r_iadd O 1129 rfl dL_law_1128 ?_
  obtain ⟨x1129, ex1129, hin1129, hf⟩ := qld_some hf
  refine r_sld O S 1130 rfl hin1129 dL_law_1129 ?_
  rw [← ex1129]
  obtain ⟨x1130, p1130_t, p1130_b, p1130_T, p1130_L, p1130_P, p1130_d, p1130_r, hq1130, hf⟩ := qb8_some hf
  refine k_VI O 1133 rfl (zX9_paintedPiece (l := xl X) (D := xD X) (cI := cI) (cZ := cZ) (cQ := cQ) (h_t := h_t) (h_w := h_w) (h_b := h_b) (r_l := (h_l 0)) (r_H := (h_H 0)) (r_x := (h_x 0)) (h_T := h_T) (h_L := h_L) (h_P := h_P) (r_C := (h_C 0)) (h_d := h_d) (r_F := (h_F 0)) (h_r := h_r) (r_n := (h_n 0)) hq1130) (gV mlL_149 mvX9_paintedPiece izX9) rfl rfl rfl hdX9_paintedPiece ⟨Nat.le_of_ble_eq_true rfl, Nat.le_of_ble_eq_true rfl⟩ rfl 0 rfl rfl rfl rfl (Nat.le_of_ble_eq_true rfl) ⟨Nat.le_of_ble_eq_true rfl, Nat.le_of_ble_eq_true rfl⟩ [0, 1, 2, 14, 15, 16, 20, 23] rfl rfl rfl ([nX9 cI cZ cQ h_t (h_w 0) (h_b 0) (h_l 0) (h_H 0) (h_x 0) (h_T 0) (h_C 0) (h_d 0) (h_F 0) (h_r 0) (h_n 0) p1130_t, nX8 cI cZ cQ h_w w_w, nX8 cI cZ cQ h_b p1130_b, nX8 cI cZ cQ h_l w_l, nX2 cI cZ cQ h_H (hkf h_k0 h_k1 h_k2 h_k3 h_k4 h_k5 h_k6 h_k7) w_H, nX8 cI cZ cQ h_k0 w_k0, nX8 cI cZ cQ h_k1 w_k1, nX8 cI cZ cQ h_k2 w_k2, nX8 cI cZ cQ h_k3 w_k3, nX8 cI cZ cQ h_k4 w_k4, nX8 cI cZ cQ h_k5 w_k5, nX8 cI cZ cQ h_k6 w_k6, nX8 cI cZ cQ h_k7 w_k7, nX7 cI cZ cQ h_x w_x, nX6 cI cZ cQ h_T (h_w 0) (h_L 0) (h_P 0) p1130_T, nX4 cI cZ cQ h_L (h_w 0) p1130_L, nX4 cI cZ cQ h_P (h_w 0) p1130_P, nX6 cI cZ cQ h_C (h_w 0) (h_M 0) (h_Q 0) w_C, nX4 cI cZ cQ h_M (h_w 0) w_M, nX4 cI cZ cQ h_Q (h_w 0) w_Q, nX0 cI cZ cQ h_d (h_w 0) (h_T 0) p1130_d, nX1 cI cZ cQ h_F (h_G 0) w_F, nX4 cI cZ cQ h_G (h_w 0) w_G, nX5 cI cZ cQ h_r (h_w 0) p1130_r, nX3 cI cZ cQ h_n (h_w 0) w_n, nX10 cI cZ cQ h_m w_m]) rfl dL_law_1130 ?_
  refine r_ald_n O 1134 rfl 2 rfl dL_law_1133 ?_
  refine r_ald_n O 1135 rfl 0 rfl dL_law_1134 ?_
  refine r_ild_n O 1136 rfl 3 rfl dL_law_1135 ?_
  refine r_ic O 1137 rfl 1 (by decide) dL_law_1136 ?_
  refine r_iadd O 1138 rfl dL_law_1137 ?_
  obtain ⟨x1138, ex1138, hin1138, hf⟩ := qld_some hf
  refine r_sld O S 1139 rfl hin1138 dL_law_1138 ?_
  rw [← ex1138]
  refine r_ald_n O 1140 rfl 0 rfl dL_law_1139 ?_
  refine r_ild_n O 1141 rfl 3 rfl dL_law_1140 ?_
  refine r_ic O 1142 rfl 2 (by decide) dL_law_1141 ?_
  refine r_iadd O 1143 rfl dL_law_1142 ?_
  obtain ⟨x1143, ex1143, hin1143, hf⟩ := qld_some hf
  refine r_sld O S 1144 rfl hin1143 dL_law_1143 ?_
  rw [← ex1143]
  refine r_ald_n O 1145 rfl 0 rfl dL_law_1144 ?_
  refine r_ild_n O 1146 rfl 3 rfl dL_law_1145 ?_
  refine r_ic O 1147 rfl 3 (by decide) dL_law_1146 ?_
  refine r_iadd O 1148 rfl dL_law_1147 ?_
  obtain ⟨x1148, ex1148, hin1148, hf⟩ := qld_some hf
  refine r_sld O S 1149 rfl hin1148 dL_law_1148 ?_
  rw [← ex1148]
  refine r_ald_n O 1150 rfl 0 rfl dL_law_1149 ?_
  refine r_ild_n O 1151 rfl 3 rfl dL_law_1150 ?_
  refine r_ic O 1152 rfl 4 (by decide) dL_law_1151 ?_
  refine r_iadd O 1153 rfl dL_law_1152 ?_
  obtain ⟨x1153, ex1153, hin1153, hf⟩ := qld_some hf
  refine r_sld O S 1154 rfl hin1153 dL_law_1153 ?_
  rw [← ex1153]
  refine r_ald_n O 1155 rfl 0 rfl dL_law_1154 ?_
  refine r_ild_n O 1156 rfl 3 rfl dL_law_1155 ?_
  refine r_ic O 1157 rfl 5 (by decide) dL_law_1156 ?_
  refine r_iadd O 1158 rfl dL_law_1157 ?_
  obtain ⟨x1158, ex1158, hin1158, hf⟩ := qld_some hf
  refine r_sld O S 1159 rfl hin1158 dL_law_1158 ?_
  rw [← ex1158]
  obtain ⟨x1159, p1159_m, hq1159, hf⟩ := qb2_some hf
  refine k_VI O 1162 rfl (zX10_paintedPiece (l := xl X) (D := xD X) (cI := cI) (cZ := cZ) (cQ := cQ) (h_t := h_m) hq1159) (gV mlL_153 mvX10_paintedPiece izX10) rfl rfl rfl hdX10_paintedPiece ⟨Nat.le_of_ble_eq_true rfl, Nat.le_of_ble_eq_true rfl⟩ rfl 25 rfl rfl rfl rfl (Nat.le_of_ble_eq_true rfl) ⟨Nat.le_of_ble_eq_true rfl, Nat.le_of_ble_eq_true rfl⟩ [25] rfl rfl rfl ([nX9 cI cZ cQ h_t (h_w 0) (h_b 0) (h_l 0) (h_H 0) (h_x 0) (h_T 0) (h_C 0) (h_d 0) (h_F 0) (h_r 0) (h_n 0) p1130_t, nX8 cI cZ cQ h_w w_w, nX8 cI cZ cQ h_b p1130_b, nX8 cI cZ cQ h_l w_l, nX2 cI cZ cQ h_H (hkf h_k0 h_k1 h_k2 h_k3 h_k4 h_k5 h_k6 h_k7) w_H, nX8 cI cZ cQ h_k0 w_k0, nX8 cI cZ cQ h_k1 w_k1, nX8 cI cZ cQ h_k2 w_k2, nX8 cI cZ cQ h_k3 w_k3, nX8 cI cZ cQ h_k4 w_k4, nX8 cI cZ cQ h_k5 w_k5, nX8 cI cZ cQ h_k6 w_k6, nX8 cI cZ cQ h_k7 w_k7, nX7 cI cZ cQ h_x w_x, nX6 cI cZ cQ h_T (h_w 0) (h_L 0) (h_P 0) p1130_T, nX4 cI cZ cQ h_L (h_w 0) p1130_L, nX4 cI cZ cQ h_P (h_w 0) p1130_P, nX6 cI cZ cQ h_C (h_w 0) (h_M 0) (h_Q 0) w_C, nX4 cI cZ cQ h_M (h_w 0) w_M, nX4 cI cZ cQ h_Q (h_w 0) w_Q, nX0 cI cZ cQ h_d (h_w 0) (h_T 0) p1130_d, nX1 cI cZ cQ h_F (h_G 0) w_F, nX4 cI cZ cQ h_G (h_w 0) w_G, nX5 cI cZ cQ h_r (h_w 0) p1130_r, nX3 cI cZ cQ h_n (h_w 0) w_n, nX10 cI cZ cQ h_m p1159_m]) rfl dL_law_1159 ?_
  refine r_icmp_eq O 1165 rfl 1795 dL_law_1162 (by decide) (fun hc1162 => ?_) (fun hc1162 => ?_)
  · rw [if_pos hc1162] at hf
    exact lwB1795 O S E rec18 hrec18 _ _ _ _ _ _ _ _ _ _ _ _ _ _ _ _ _ _ _ _ _ _ _ _ _ _ _ hf
  · rw [if_neg hc1162] at hf
    refine r_ic O 1166 rfl 0 (by decide) dL_law_1165 ?_
    exact absurd (qe1 hf) (by decide)
set_option maxHeartbeats 40000000 in
set_option maxRecDepth 100000 in
theorem lwB338 {X : Cx} {cI cZ cQ : ClassId} {bS L : Nat} {xs : Nat → Int32} (O : OK X cL_law 8 RL wB room_1 cI cZ cQ) (S : SX X bS L xs) (E : ∀ {pc : Nat} {ws : List va_W} {lv : List (Nat × Value)}, decode cL_law pc = .ok (.ireturn, 1) → BK X 8 177 15831 pc ws lv [.int 1]) {h_t h_w h_b h_l h_H h_k0 h_k1 h_k2 h_k3 h_k4 h_k5 h_k6 h_k7 h_x h_T h_L h_P h_C h_M h_Q h_d h_F h_G h_r h_n h_m : Nat → Nat} (rec18 : Pk → Pk → Pk → Pk → Pk → Pk → Pk → Pk → Pk → Pk → Pk → Pk → Pk → Pk → Pk → Pk → Pk → Pk → Pk → Pk → Pk → Pk → Pk → Pk → Pk → Pk → Int32 → Option Int32) (hrec18 : ∀ (w_t : Pk) (w_w : Pk) (w_b : Pk) (w_l : Pk) (w_H : Pk) (w_k0 : Pk) (w_k1 : Pk) (w_k2 : Pk) (w_k3 : Pk) (w_k4 : Pk) (w_k5 : Pk) (w_k6 : Pk) (w_k7 : Pk) (w_x : Pk) (w_T : Pk) (w_L : Pk) (w_P : Pk) (w_C : Pk) (w_M : Pk) (w_Q : Pk) (w_d : Pk) (w_F : Pk) (w_G : Pk) (w_r : Pk) (w_n : Pk) (w_m : Pk) (y3 : Int32), rec18 w_t w_w w_b w_l w_H w_k0 w_k1 w_k2 w_k3 w_k4 w_k5 w_k6 w_k7 w_x w_T w_L w_P w_C w_M w_Q w_d w_F w_G w_r w_n w_m y3 = some 1 → BK X 8 177 15831 18 ([nX9 cI cZ cQ h_t (h_w 0) (h_b 0) (h_l 0) (h_H 0) (h_x 0) (h_T 0) (h_C 0) (h_d 0) (h_F 0) (h_r 0) (h_n 0) w_t, nX8 cI cZ cQ h_w w_w, nX8 cI cZ cQ h_b w_b, nX8 cI cZ cQ h_l w_l, nX2 cI cZ cQ h_H (hkf h_k0 h_k1 h_k2 h_k3 h_k4 h_k5 h_k6 h_k7) w_H, nX8 cI cZ cQ h_k0 w_k0, nX8 cI cZ cQ h_k1 w_k1, nX8 cI cZ cQ h_k2 w_k2, nX8 cI cZ cQ h_k3 w_k3, nX8 cI cZ cQ h_k4 w_k4, nX8 cI cZ cQ h_k5 w_k5, nX8 cI cZ cQ h_k6 w_k6, nX8 cI cZ cQ h_k7 w_k7, nX7 cI cZ cQ h_x w_x, nX6 cI cZ cQ h_T (h_w 0) (h_L 0) (h_P 0) w_T, nX4 cI cZ cQ h_L (h_w 0) w_L, nX4 cI cZ cQ h_P (h_w 0) w_P, nX6 cI cZ cQ h_C (h_w 0) (h_M 0) (h_Q 0) w_C, nX4 cI cZ cQ h_M (h_w 0) w_M, nX4 cI cZ cQ h_Q (h_w 0) w_Q, nX0 cI cZ cQ h_d (h_w 0) (h_T 0) w_d, nX1 cI cZ cQ h_F (h_G 0) w_F, nX4 cI cZ cQ h_G (h_w 0) w_G, nX5 cI cZ cQ h_r (h_w 0) w_r, nX3 cI cZ cQ h_n (h_w 0) w_n, nX10 cI cZ cQ h_m w_m]) [(0, .ref bS), (1, .ref (h_t 0)), (2, .ref (h_m 0)), (3, .int y3)] []) : ∀ (w_t : Pk) (w_w : Pk) (w_b : Pk) (w_l : Pk) (w_H : Pk) (w_k0 : Pk) (w_k1 : Pk) (w_k2 : Pk) (w_k3 : Pk) (w_k4 : Pk) (w_k5 : Pk) (w_k6 : Pk) (w_k7 : Pk) (w_x : Pk) (w_T : Pk) (w_L : Pk) (w_P : Pk) (w_C : Pk) (w_M : Pk) (w_Q : Pk) (w_d : Pk) (w_F : Pk) (w_G : Pk) (w_r : Pk) (w_n : Pk) (w_m : Pk) (y3 : Int32), fL_b338 L xs rec18 w_t w_w w_b w_l w_H w_k0 w_k1 w_k2 w_k3 w_k4 w_k5 w_k6 w_k7 w_x w_T w_L w_P w_C w_M w_Q w_d w_F w_G w_r w_n w_m y3 = some 1 → BK X 8 177 15831 338 ([nX9 cI cZ cQ h_t (h_w 0) (h_b 0) (h_l 0) (h_H 0) (h_x 0) (h_T 0) (h_C 0) (h_d 0) (h_F 0) (h_r 0) (h_n 0) w_t, nX8 cI cZ cQ h_w w_w, nX8 cI cZ cQ h_b w_b, nX8 cI cZ cQ h_l w_l, nX2 cI cZ cQ h_H (hkf h_k0 h_k1 h_k2 h_k3 h_k4 h_k5 h_k6 h_k7) w_H, nX8 cI cZ cQ h_k0 w_k0, nX8 cI cZ cQ h_k1 w_k1, nX8 cI cZ cQ h_k2 w_k2, nX8 cI cZ cQ h_k3 w_k3, nX8 cI cZ cQ h_k4 w_k4, nX8 cI cZ cQ h_k5 w_k5, nX8 cI cZ cQ h_k6 w_k6, nX8 cI cZ cQ h_k7 w_k7, nX7 cI cZ cQ h_x w_x, nX6 cI cZ cQ h_T (h_w 0) (h_L 0) (h_P 0) w_T, nX4 cI cZ cQ h_L (h_w 0) w_L, nX4 cI cZ cQ h_P (h_w 0) w_P, nX6 cI cZ cQ h_C (h_w 0) (h_M 0) (h_Q 0) w_C, nX4 cI cZ cQ h_M (h_w 0) w_M, nX4 cI cZ cQ h_Q (h_w 0) w_Q, nX0 cI cZ cQ h_d (h_w 0) (h_T 0) w_d, nX1 cI cZ cQ h_F (h_G 0) w_F, nX4 cI cZ cQ h_G (h_w 0) w_G, nX5 cI cZ cQ h_r (h_w 0) w_r, nX3 cI cZ cQ h_n (h_w 0) w_n, nX10 cI cZ cQ h_m w_m]) [(0, .ref bS), (1, .ref (h_t 0)), (2, .ref (h_m 0)), (3, .int y3)] [] := by
  intro w_t w_w w_b w_l w_H w_k0 w_k1 w_k2 w_k3 w_k4 w_k5 w_k6 w_k7 w_x w_T w_L w_P w_C w_M w_Q w_d w_F w_G w_r w_n w_m y3 hf
  unfold fL_b338 at hf
  refine r_ald_n O 339 rfl 1 rfl dL_law_338 ?_
  refine r_ald_n O 340 rfl 0 rfl dL_law_339 ?_
  refine r_ild_n O 341 rfl 3 rfl dL_law_340 ?_
  refine r_ic O 342 rfl 1 (by decide) dL_law_341 ?_
  refine r_iadd O 343 rfl dL_law_342 ?_
  obtain ⟨x343, ex343, hin343, hf⟩ := qld_some hf
  refine r_sld O S 344 rfl hin343 dL_law_343 ?_
  rw [← ex343]
  refine r_ald_n O 345 rfl 0 rfl dL_law_344 ?_
  refine r_ild_n O 346 rfl 3 rfl dL_law_345 ?_
  refine r_ic O 347 rfl 2 (by decide) dL_law_346 ?_
  refine r_iadd O 348 rfl dL_law_347 ?_
  obtain ⟨x348, ex348, hin348, hf⟩ := qld_some hf
  refine r_sld O S 349 rfl hin348 dL_law_348 ?_
  rw [← ex348]
  refine r_ald_n O 350 rfl 0 rfl dL_law_349 ?_
  refine r_ild_n O 351 rfl 3 rfl dL_law_350 ?_
  refine r_ic O 352 rfl 3 (by decide) dL_law_351 ?_
  refine r_iadd O 353 rfl dL_law_352 ?_
  obtain ⟨x353, ex353, hin353, hf⟩ := qld_some hf
  refine r_sld O S 354 rfl hin353 dL_law_353 ?_
  rw [← ex353]
  obtain ⟨x354, p354_t, p354_w, p354_H, p354_k0, p354_k1, p354_k2, p354_k3, p354_k4, p354_k5, p354_k6, p354_k7, hq354, hf⟩ := qb12_some hf
  refine k_VI O 357 rfl (zX9_moveWall (l := xl X) (D := xD X) (cI := cI) (cZ := cZ) (cQ := cQ) (h_t := h_t) (h_w := h_w) (r_b := (h_b 0)) (r_l := (h_l 0)) (h_H := h_H) (h_k0 := h_k0) (h_k1 := h_k1) (h_k2 := h_k2) (h_k3 := h_k3) (h_k4 := h_k4) (h_k5 := h_k5) (h_k6 := h_k6) (h_k7 := h_k7) (r_x := (h_x 0)) (r_T := (h_T 0)) (r_C := (h_C 0)) (r_d := (h_d 0)) (r_F := (h_F 0)) (r_r := (h_r 0)) (r_n := (h_n 0)) hq354) (gV mlL_23 mvX9_moveWall izX9) rfl rfl rfl hdX9_moveWall ⟨Nat.le_of_ble_eq_true rfl, Nat.le_of_ble_eq_true rfl⟩ rfl 0 rfl rfl rfl rfl (Nat.le_of_ble_eq_true rfl) ⟨Nat.le_of_ble_eq_true rfl, Nat.le_of_ble_eq_true rfl⟩ [0, 1, 4, 5, 6, 7, 8, 9, 10, 11, 12] rfl rfl rfl ([nX9 cI cZ cQ h_t (h_w 0) (h_b 0) (h_l 0) (h_H 0) (h_x 0) (h_T 0) (h_C 0) (h_d 0) (h_F 0) (h_r 0) (h_n 0) p354_t, nX8 cI cZ cQ h_w p354_w, nX8 cI cZ cQ h_b w_b, nX8 cI cZ cQ h_l w_l, nX2 cI cZ cQ h_H (hkf h_k0 h_k1 h_k2 h_k3 h_k4 h_k5 h_k6 h_k7) p354_H, nX8 cI cZ cQ h_k0 p354_k0, nX8 cI cZ cQ h_k1 p354_k1, nX8 cI cZ cQ h_k2 p354_k2, nX8 cI cZ cQ h_k3 p354_k3, nX8 cI cZ cQ h_k4 p354_k4, nX8 cI cZ cQ h_k5 p354_k5, nX8 cI cZ cQ h_k6 p354_k6, nX8 cI cZ cQ h_k7 p354_k7, nX7 cI cZ cQ h_x w_x, nX6 cI cZ cQ h_T (h_w 0) (h_L 0) (h_P 0) w_T, nX4 cI cZ cQ h_L (h_w 0) w_L, nX4 cI cZ cQ h_P (h_w 0) w_P, nX6 cI cZ cQ h_C (h_w 0) (h_M 0) (h_Q 0) w_C, nX4 cI cZ cQ h_M (h_w 0) w_M, nX4 cI cZ cQ h_Q (h_w 0) w_Q, nX0 cI cZ cQ h_d (h_w 0) (h_T 0) w_d, nX1 cI cZ cQ h_F (h_G 0) w_F, nX4 cI cZ cQ h_G (h_w 0) w_G, nX5 cI cZ cQ h_r (h_w 0) w_r, nX3 cI cZ cQ h_n (h_w 0) w_n, nX10 cI cZ cQ h_m w_m]) rfl dL_law_354 ?_
  refine r_ald_n O 358 rfl 2 rfl dL_law_357 ?_
  refine r_ald_n O 359 rfl 0 rfl dL_law_358 ?_
  refine r_ild_n O 360 rfl 3 rfl dL_law_359 ?_
  refine r_ic O 361 rfl 1 (by decide) dL_law_360 ?_
  refine r_iadd O 362 rfl dL_law_361 ?_
  obtain ⟨x362, ex362, hin362, hf⟩ := qld_some hf
  refine r_sld O S 363 rfl hin362 dL_law_362 ?_
  rw [← ex362]
  refine r_ald_n O 364 rfl 0 rfl dL_law_363 ?_
  refine r_ild_n O 365 rfl 3 rfl dL_law_364 ?_
  refine r_ic O 366 rfl 2 (by decide) dL_law_365 ?_
  refine r_iadd O 367 rfl dL_law_366 ?_
  obtain ⟨x367, ex367, hin367, hf⟩ := qld_some hf
  refine r_sld O S 368 rfl hin367 dL_law_367 ?_
  rw [← ex367]
  refine r_ald_n O 369 rfl 0 rfl dL_law_368 ?_
  refine r_ild_n O 370 rfl 3 rfl dL_law_369 ?_
  refine r_ic O 371 rfl 3 (by decide) dL_law_370 ?_
  refine r_iadd O 372 rfl dL_law_371 ?_
  obtain ⟨x372, ex372, hin372, hf⟩ := qld_some hf
  refine r_sld O S 373 rfl hin372 dL_law_372 ?_
  rw [← ex372]
  obtain ⟨x373, p373_m, hq373, hf⟩ := qb2_some hf
  refine k_VI O 376 rfl (zX10_moveWall (l := xl X) (D := xD X) (cI := cI) (cZ := cZ) (cQ := cQ) (h_t := h_m) hq373) (gV mlL_27 mvX10_moveWall izX10) rfl rfl rfl hdX10_moveWall ⟨Nat.le_of_ble_eq_true rfl, Nat.le_of_ble_eq_true rfl⟩ rfl 25 rfl rfl rfl rfl (Nat.le_of_ble_eq_true rfl) ⟨Nat.le_of_ble_eq_true rfl, Nat.le_of_ble_eq_true rfl⟩ [25] rfl rfl rfl ([nX9 cI cZ cQ h_t (h_w 0) (h_b 0) (h_l 0) (h_H 0) (h_x 0) (h_T 0) (h_C 0) (h_d 0) (h_F 0) (h_r 0) (h_n 0) p354_t, nX8 cI cZ cQ h_w p354_w, nX8 cI cZ cQ h_b w_b, nX8 cI cZ cQ h_l w_l, nX2 cI cZ cQ h_H (hkf h_k0 h_k1 h_k2 h_k3 h_k4 h_k5 h_k6 h_k7) p354_H, nX8 cI cZ cQ h_k0 p354_k0, nX8 cI cZ cQ h_k1 p354_k1, nX8 cI cZ cQ h_k2 p354_k2, nX8 cI cZ cQ h_k3 p354_k3, nX8 cI cZ cQ h_k4 p354_k4, nX8 cI cZ cQ h_k5 p354_k5, nX8 cI cZ cQ h_k6 p354_k6, nX8 cI cZ cQ h_k7 p354_k7, nX7 cI cZ cQ h_x w_x, nX6 cI cZ cQ h_T (h_w 0) (h_L 0) (h_P 0) w_T, nX4 cI cZ cQ h_L (h_w 0) w_L, nX4 cI cZ cQ h_P (h_w 0) w_P, nX6 cI cZ cQ h_C (h_w 0) (h_M 0) (h_Q 0) w_C, nX4 cI cZ cQ h_M (h_w 0) w_M, nX4 cI cZ cQ h_Q (h_w 0) w_Q, nX0 cI cZ cQ h_d (h_w 0) (h_T 0) w_d, nX1 cI cZ cQ h_F (h_G 0) w_F, nX4 cI cZ cQ h_G (h_w 0) w_G, nX5 cI cZ cQ h_r (h_w 0) w_r, nX3 cI cZ cQ h_n (h_w 0) w_n, nX10 cI cZ cQ h_m p373_m]) rfl dL_law_373 ?_
  refine r_icmp_eq O 379 rfl 1795 dL_law_376 (by decide) (fun hc376 => ?_) (fun hc376 => ?_)
  · rw [if_pos hc376] at hf
    exact lwB1795 O S E rec18 hrec18 _ _ _ _ _ _ _ _ _ _ _ _ _ _ _ _ _ _ _ _ _ _ _ _ _ _ _ hf
  · rw [if_neg hc376] at hf
    refine r_ic O 380 rfl 0 (by decide) dL_law_379 ?_
    exact absurd (qe1 hf) (by decide)
set_option maxHeartbeats 40000000 in
set_option maxRecDepth 100000 in
theorem lwB722 {X : Cx} {cI cZ cQ : ClassId} {bS L : Nat} {xs : Nat → Int32} (O : OK X cL_law 8 RL wB room_1 cI cZ cQ) (S : SX X bS L xs) (E : ∀ {pc : Nat} {ws : List va_W} {lv : List (Nat × Value)}, decode cL_law pc = .ok (.ireturn, 1) → BK X 8 177 15831 pc ws lv [.int 1]) {h_t h_w h_b h_l h_H h_k0 h_k1 h_k2 h_k3 h_k4 h_k5 h_k6 h_k7 h_x h_T h_L h_P h_C h_M h_Q h_d h_F h_G h_r h_n h_m : Nat → Nat} (rec18 : Pk → Pk → Pk → Pk → Pk → Pk → Pk → Pk → Pk → Pk → Pk → Pk → Pk → Pk → Pk → Pk → Pk → Pk → Pk → Pk → Pk → Pk → Pk → Pk → Pk → Pk → Int32 → Option Int32) (hrec18 : ∀ (w_t : Pk) (w_w : Pk) (w_b : Pk) (w_l : Pk) (w_H : Pk) (w_k0 : Pk) (w_k1 : Pk) (w_k2 : Pk) (w_k3 : Pk) (w_k4 : Pk) (w_k5 : Pk) (w_k6 : Pk) (w_k7 : Pk) (w_x : Pk) (w_T : Pk) (w_L : Pk) (w_P : Pk) (w_C : Pk) (w_M : Pk) (w_Q : Pk) (w_d : Pk) (w_F : Pk) (w_G : Pk) (w_r : Pk) (w_n : Pk) (w_m : Pk) (y3 : Int32), rec18 w_t w_w w_b w_l w_H w_k0 w_k1 w_k2 w_k3 w_k4 w_k5 w_k6 w_k7 w_x w_T w_L w_P w_C w_M w_Q w_d w_F w_G w_r w_n w_m y3 = some 1 → BK X 8 177 15831 18 ([nX9 cI cZ cQ h_t (h_w 0) (h_b 0) (h_l 0) (h_H 0) (h_x 0) (h_T 0) (h_C 0) (h_d 0) (h_F 0) (h_r 0) (h_n 0) w_t, nX8 cI cZ cQ h_w w_w, nX8 cI cZ cQ h_b w_b, nX8 cI cZ cQ h_l w_l, nX2 cI cZ cQ h_H (hkf h_k0 h_k1 h_k2 h_k3 h_k4 h_k5 h_k6 h_k7) w_H, nX8 cI cZ cQ h_k0 w_k0, nX8 cI cZ cQ h_k1 w_k1, nX8 cI cZ cQ h_k2 w_k2, nX8 cI cZ cQ h_k3 w_k3, nX8 cI cZ cQ h_k4 w_k4, nX8 cI cZ cQ h_k5 w_k5, nX8 cI cZ cQ h_k6 w_k6, nX8 cI cZ cQ h_k7 w_k7, nX7 cI cZ cQ h_x w_x, nX6 cI cZ cQ h_T (h_w 0) (h_L 0) (h_P 0) w_T, nX4 cI cZ cQ h_L (h_w 0) w_L, nX4 cI cZ cQ h_P (h_w 0) w_P, nX6 cI cZ cQ h_C (h_w 0) (h_M 0) (h_Q 0) w_C, nX4 cI cZ cQ h_M (h_w 0) w_M, nX4 cI cZ cQ h_Q (h_w 0) w_Q, nX0 cI cZ cQ h_d (h_w 0) (h_T 0) w_d, nX1 cI cZ cQ h_F (h_G 0) w_F, nX4 cI cZ cQ h_G (h_w 0) w_G, nX5 cI cZ cQ h_r (h_w 0) w_r, nX3 cI cZ cQ h_n (h_w 0) w_n, nX10 cI cZ cQ h_m w_m]) [(0, .ref bS), (1, .ref (h_t 0)), (2, .ref (h_m 0)), (3, .int y3)] []) : ∀ (w_t : Pk) (w_w : Pk) (w_b : Pk) (w_l : Pk) (w_H : Pk) (w_k0 : Pk) (w_k1 : Pk) (w_k2 : Pk) (w_k3 : Pk) (w_k4 : Pk) (w_k5 : Pk) (w_k6 : Pk) (w_k7 : Pk) (w_x : Pk) (w_T : Pk) (w_L : Pk) (w_P : Pk) (w_C : Pk) (w_M : Pk) (w_Q : Pk) (w_d : Pk) (w_F : Pk) (w_G : Pk) (w_r : Pk) (w_n : Pk) (w_m : Pk) (y3 : Int32), fL_b722 L xs rec18 w_t w_w w_b w_l w_H w_k0 w_k1 w_k2 w_k3 w_k4 w_k5 w_k6 w_k7 w_x w_T w_L w_P w_C w_M w_Q w_d w_F w_G w_r w_n w_m y3 = some 1 → BK X 8 177 15831 722 ([nX9 cI cZ cQ h_t (h_w 0) (h_b 0) (h_l 0) (h_H 0) (h_x 0) (h_T 0) (h_C 0) (h_d 0) (h_F 0) (h_r 0) (h_n 0) w_t, nX8 cI cZ cQ h_w w_w, nX8 cI cZ cQ h_b w_b, nX8 cI cZ cQ h_l w_l, nX2 cI cZ cQ h_H (hkf h_k0 h_k1 h_k2 h_k3 h_k4 h_k5 h_k6 h_k7) w_H, nX8 cI cZ cQ h_k0 w_k0, nX8 cI cZ cQ h_k1 w_k1, nX8 cI cZ cQ h_k2 w_k2, nX8 cI cZ cQ h_k3 w_k3, nX8 cI cZ cQ h_k4 w_k4, nX8 cI cZ cQ h_k5 w_k5, nX8 cI cZ cQ h_k6 w_k6, nX8 cI cZ cQ h_k7 w_k7, nX7 cI cZ cQ h_x w_x, nX6 cI cZ cQ h_T (h_w 0) (h_L 0) (h_P 0) w_T, nX4 cI cZ cQ h_L (h_w 0) w_L, nX4 cI cZ cQ h_P (h_w 0) w_P, nX6 cI cZ cQ h_C (h_w 0) (h_M 0) (h_Q 0) w_C, nX4 cI cZ cQ h_M (h_w 0) w_M, nX4 cI cZ cQ h_Q (h_w 0) w_Q, nX0 cI cZ cQ h_d (h_w 0) (h_T 0) w_d, nX1 cI cZ cQ h_F (h_G 0) w_F, nX4 cI cZ cQ h_G (h_w 0) w_G, nX5 cI cZ cQ h_r (h_w 0) w_r, nX3 cI cZ cQ h_n (h_w 0) w_n, nX10 cI cZ cQ h_m w_m]) [(0, .ref bS), (1, .ref (h_t 0)), (2, .ref (h_m 0)), (3, .int y3)] [] := by
  intro w_t w_w w_b w_l w_H w_k0 w_k1 w_k2 w_k3 w_k4 w_k5 w_k6 w_k7 w_x w_T w_L w_P w_C w_M w_Q w_d w_F w_G w_r w_n w_m y3 hf
  unfold fL_b722 at hf
  refine r_ald_n O 723 rfl 1 rfl dL_law_722 ?_
  refine r_ald_n O 724 rfl 0 rfl dL_law_723 ?_
  refine r_ild_n O 725 rfl 3 rfl dL_law_724 ?_
  refine r_ic O 726 rfl 1 (by decide) dL_law_725 ?_
  refine r_iadd O 727 rfl dL_law_726 ?_
  obtain ⟨x727, ex727, hin727, hf⟩ := qld_some hf
  refine r_sld O S 728 rfl hin727 dL_law_727 ?_
  rw [← ex727]
  obtain ⟨x728, p728_t, p728_b, p728_T, p728_L, p728_P, hq728, hf⟩ := qb6_some hf
  refine k_VI O 731 rfl (zX9_nodeDepth (l := xl X) (D := xD X) (cI := cI) (cZ := cZ) (cQ := cQ) (h_t := h_t) (h_w := h_w) (h_b := h_b) (r_l := (h_l 0)) (r_H := (h_H 0)) (r_x := (h_x 0)) (h_T := h_T) (h_L := h_L) (h_P := h_P) (r_C := (h_C 0)) (r_d := (h_d 0)) (r_F := (h_F 0)) (r_r := (h_r 0)) (r_n := (h_n 0)) hq728) (gV mlL_98 mvX9_nodeDepth izX9) rfl rfl rfl hdX9_nodeDepth ⟨Nat.le_of_ble_eq_true rfl, Nat.le_of_ble_eq_true rfl⟩ rfl 0 rfl rfl rfl rfl (Nat.le_of_ble_eq_true rfl) ⟨Nat.le_of_ble_eq_true rfl, Nat.le_of_ble_eq_true rfl⟩ [0, 1, 2, 14, 15, 16] rfl rfl rfl ([nX9 cI cZ cQ h_t (h_w 0) (h_b 0) (h_l 0) (h_H 0) (h_x 0) (h_T 0) (h_C 0) (h_d 0) (h_F 0) (h_r 0) (h_n 0) p728_t, nX8 cI cZ cQ h_w w_w, nX8 cI cZ cQ h_b p728_b, nX8 cI cZ cQ h_l w_l, nX2 cI cZ cQ h_H (hkf h_k0 h_k1 h_k2 h_k3 h_k4 h_k5 h_k6 h_k7) w_H, nX8 cI cZ cQ h_k0 w_k0, nX8 cI cZ cQ h_k1 w_k1, nX8 cI cZ cQ h_k2 w_k2, nX8 cI cZ cQ h_k3 w_k3, nX8 cI cZ cQ h_k4 w_k4, nX8 cI cZ cQ h_k5 w_k5, nX8 cI cZ cQ h_k6 w_k6, nX8 cI cZ cQ h_k7 w_k7, nX7 cI cZ cQ h_x w_x, nX6 cI cZ cQ h_T (h_w 0) (h_L 0) (h_P 0) p728_T, nX4 cI cZ cQ h_L (h_w 0) p728_L, nX4 cI cZ cQ h_P (h_w 0) p728_P, nX6 cI cZ cQ h_C (h_w 0) (h_M 0) (h_Q 0) w_C, nX4 cI cZ cQ h_M (h_w 0) w_M, nX4 cI cZ cQ h_Q (h_w 0) w_Q, nX0 cI cZ cQ h_d (h_w 0) (h_T 0) w_d, nX1 cI cZ cQ h_F (h_G 0) w_F, nX4 cI cZ cQ h_G (h_w 0) w_G, nX5 cI cZ cQ h_r (h_w 0) w_r, nX3 cI cZ cQ h_n (h_w 0) w_n, nX10 cI cZ cQ h_m w_m]) rfl dL_law_728 ?_
  refine r_ald_n O 732 rfl 2 rfl dL_law_731 ?_
  refine r_ald_n O 733 rfl 0 rfl dL_law_732 ?_
  refine r_ild_n O 734 rfl 3 rfl dL_law_733 ?_
  refine r_ic O 735 rfl 1 (by decide) dL_law_734 ?_
  refine r_iadd O 736 rfl dL_law_735 ?_
  obtain ⟨x736, ex736, hin736, hf⟩ := qld_some hf
  refine r_sld O S 737 rfl hin736 dL_law_736 ?_
  rw [← ex736]
  obtain ⟨x737, p737_m, hq737, hf⟩ := qb2_some hf
  refine k_VI O 740 rfl (zX10_nodeDepth (l := xl X) (D := xD X) (cI := cI) (cZ := cZ) (cQ := cQ) (h_t := h_m) hq737) (gV mlL_101 mvX10_nodeDepth izX10) rfl rfl rfl hdX10_nodeDepth ⟨Nat.le_of_ble_eq_true rfl, Nat.le_of_ble_eq_true rfl⟩ rfl 25 rfl rfl rfl rfl (Nat.le_of_ble_eq_true rfl) ⟨Nat.le_of_ble_eq_true rfl, Nat.le_of_ble_eq_true rfl⟩ [25] rfl rfl rfl ([nX9 cI cZ cQ h_t (h_w 0) (h_b 0) (h_l 0) (h_H 0) (h_x 0) (h_T 0) (h_C 0) (h_d 0) (h_F 0) (h_r 0) (h_n 0) p728_t, nX8 cI cZ cQ h_w w_w, nX8 cI cZ cQ h_b p728_b, nX8 cI cZ cQ h_l w_l, nX2 cI cZ cQ h_H (hkf h_k0 h_k1 h_k2 h_k3 h_k4 h_k5 h_k6 h_k7) w_H, nX8 cI cZ cQ h_k0 w_k0, nX8 cI cZ cQ h_k1 w_k1, nX8 cI cZ cQ h_k2 w_k2, nX8 cI cZ cQ h_k3 w_k3, nX8 cI cZ cQ h_k4 w_k4, nX8 cI cZ cQ h_k5 w_k5, nX8 cI cZ cQ h_k6 w_k6, nX8 cI cZ cQ h_k7 w_k7, nX7 cI cZ cQ h_x w_x, nX6 cI cZ cQ h_T (h_w 0) (h_L 0) (h_P 0) p728_T, nX4 cI cZ cQ h_L (h_w 0) p728_L, nX4 cI cZ cQ h_P (h_w 0) p728_P, nX6 cI cZ cQ h_C (h_w 0) (h_M 0) (h_Q 0) w_C, nX4 cI cZ cQ h_M (h_w 0) w_M, nX4 cI cZ cQ h_Q (h_w 0) w_Q, nX0 cI cZ cQ h_d (h_w 0) (h_T 0) w_d, nX1 cI cZ cQ h_F (h_G 0) w_F, nX4 cI cZ cQ h_G (h_w 0) w_G, nX5 cI cZ cQ h_r (h_w 0) w_r, nX3 cI cZ cQ h_n (h_w 0) w_n, nX10 cI cZ cQ h_m p737_m]) rfl dL_law_737 ?_
  refine r_icmp_eq O 743 rfl 1795 dL_law_740 (by decide) (fun hc740 => ?_) (fun hc740 => ?_)
  · rw [if_pos hc740] at hf
    exact lwB1795 O S E rec18 hrec18 _ _ _ _ _ _ _ _ _ _ _ _ _ _ _ _ _ _ _ _ _ _ _ _ _ _ _ hf
  · rw [if_neg hc740] at hf
    refine r_ic O 744 rfl 0 (by decide) dL_law_743 ?_
    exact absurd (qe1 hf) (by decide)
set_option maxHeartbeats 40000000 in
set_option maxRecDepth 100000 in
theorem lwB470 {X : Cx} {cI cZ cQ : ClassId} {bS L : Nat} {xs : Nat → Int32} (O : OK X cL_law 8 RL wB room_1 cI cZ cQ) (S : SX X bS L xs) (E : ∀ {pc : Nat} {ws : List va_W} {lv : List (Nat × Value)}, decode cL_law pc = .ok (.ireturn, 1) → BK X 8 177 15831 pc ws lv [.int 1]) {h_t h_w h_b h_l h_H h_k0 h_k1 h_k2 h_k3 h_k4 h_k5 h_k6 h_k7 h_x h_T h_L h_P h_C h_M h_Q h_d h_F h_G h_r h_n h_m : Nat → Nat} (rec18 : Pk → Pk → Pk → Pk → Pk → Pk → Pk → Pk → Pk → Pk → Pk → Pk → Pk → Pk → Pk → Pk → Pk → Pk → Pk → Pk → Pk → Pk → Pk → Pk → Pk → Pk → Int32 → Option Int32) (hrec18 : ∀ (w_t : Pk) (w_w : Pk) (w_b : Pk) (w_l : Pk) (w_H : Pk) (w_k0 : Pk) (w_k1 : Pk) (w_k2 : Pk) (w_k3 : Pk) (w_k4 : Pk) (w_k5 : Pk) (w_k6 : Pk) (w_k7 : Pk) (w_x : Pk) (w_T : Pk) (w_L : Pk) (w_P : Pk) (w_C : Pk) (w_M : Pk) (w_Q : Pk) (w_d : Pk) (w_F : Pk) (w_G : Pk) (w_r : Pk) (w_n : Pk) (w_m : Pk) (y3 : Int32), rec18 w_t w_w w_b w_l w_H w_k0 w_k1 w_k2 w_k3 w_k4 w_k5 w_k6 w_k7 w_x w_T w_L w_P w_C w_M w_Q w_d w_F w_G w_r w_n w_m y3 = some 1 → BK X 8 177 15831 18 ([nX9 cI cZ cQ h_t (h_w 0) (h_b 0) (h_l 0) (h_H 0) (h_x 0) (h_T 0) (h_C 0) (h_d 0) (h_F 0) (h_r 0) (h_n 0) w_t, nX8 cI cZ cQ h_w w_w, nX8 cI cZ cQ h_b w_b, nX8 cI cZ cQ h_l w_l, nX2 cI cZ cQ h_H (hkf h_k0 h_k1 h_k2 h_k3 h_k4 h_k5 h_k6 h_k7) w_H, nX8 cI cZ cQ h_k0 w_k0, nX8 cI cZ cQ h_k1 w_k1, nX8 cI cZ cQ h_k2 w_k2, nX8 cI cZ cQ h_k3 w_k3, nX8 cI cZ cQ h_k4 w_k4, nX8 cI cZ cQ h_k5 w_k5, nX8 cI cZ cQ h_k6 w_k6, nX8 cI cZ cQ h_k7 w_k7, nX7 cI cZ cQ h_x w_x, nX6 cI cZ cQ h_T (h_w 0) (h_L 0) (h_P 0) w_T, nX4 cI cZ cQ h_L (h_w 0) w_L, nX4 cI cZ cQ h_P (h_w 0) w_P, nX6 cI cZ cQ h_C (h_w 0) (h_M 0) (h_Q 0) w_C, nX4 cI cZ cQ h_M (h_w 0) w_M, nX4 cI cZ cQ h_Q (h_w 0) w_Q, nX0 cI cZ cQ h_d (h_w 0) (h_T 0) w_d, nX1 cI cZ cQ h_F (h_G 0) w_F, nX4 cI cZ cQ h_G (h_w 0) w_G, nX5 cI cZ cQ h_r (h_w 0) w_r, nX3 cI cZ cQ h_n (h_w 0) w_n, nX10 cI cZ cQ h_m w_m]) [(0, .ref bS), (1, .ref (h_t 0)), (2, .ref (h_m 0)), (3, .int y3)] []) : ∀ (w_t : Pk) (w_w : Pk) (w_b : Pk) (w_l : Pk) (w_H : Pk) (w_k0 : Pk) (w_k1 : Pk) (w_k2 : Pk) (w_k3 : Pk) (w_k4 : Pk) (w_k5 : Pk) (w_k6 : Pk) (w_k7 : Pk) (w_x : Pk) (w_T : Pk) (w_L : Pk) (w_P : Pk) (w_C : Pk) (w_M : Pk) (w_Q : Pk) (w_d : Pk) (w_F : Pk) (w_G : Pk) (w_r : Pk) (w_n : Pk) (w_m : Pk) (y3 : Int32), fL_b470 L xs rec18 w_t w_w w_b w_l w_H w_k0 w_k1 w_k2 w_k3 w_k4 w_k5 w_k6 w_k7 w_x w_T w_L w_P w_C w_M w_Q w_d w_F w_G w_r w_n w_m y3 = some 1 → BK X 8 177 15831 470 ([nX9 cI cZ cQ h_t (h_w 0) (h_b 0) (h_l 0) (h_H 0) (h_x 0) (h_T 0) (h_C 0) (h_d 0) (h_F 0) (h_r 0) (h_n 0) w_t, nX8 cI cZ cQ h_w w_w, nX8 cI cZ cQ h_b w_b, nX8 cI cZ cQ h_l w_l, nX2 cI cZ cQ h_H (hkf h_k0 h_k1 h_k2 h_k3 h_k4 h_k5 h_k6 h_k7) w_H, nX8 cI cZ cQ h_k0 w_k0, nX8 cI cZ cQ h_k1 w_k1, nX8 cI cZ cQ h_k2 w_k2, nX8 cI cZ cQ h_k3 w_k3, nX8 cI cZ cQ h_k4 w_k4, nX8 cI cZ cQ h_k5 w_k5, nX8 cI cZ cQ h_k6 w_k6, nX8 cI cZ cQ h_k7 w_k7, nX7 cI cZ cQ h_x w_x, nX6 cI cZ cQ h_T (h_w 0) (h_L 0) (h_P 0) w_T, nX4 cI cZ cQ h_L (h_w 0) w_L, nX4 cI cZ cQ h_P (h_w 0) w_P, nX6 cI cZ cQ h_C (h_w 0) (h_M 0) (h_Q 0) w_C, nX4 cI cZ cQ h_M (h_w 0) w_M, nX4 cI cZ cQ h_Q (h_w 0) w_Q, nX0 cI cZ cQ h_d (h_w 0) (h_T 0) w_d, nX1 cI cZ cQ h_F (h_G 0) w_F, nX4 cI cZ cQ h_G (h_w 0) w_G, nX5 cI cZ cQ h_r (h_w 0) w_r, nX3 cI cZ cQ h_n (h_w 0) w_n, nX10 cI cZ cQ h_m w_m]) [(0, .ref bS), (1, .ref (h_t 0)), (2, .ref (h_m 0)), (3, .int y3)] [] := by
  intro w_t w_w w_b w_l w_H w_k0 w_k1 w_k2 w_k3 w_k4 w_k5 w_k6 w_k7 w_x w_T w_L w_P w_C w_M w_Q w_d w_F w_G w_r w_n w_m y3 hf
  unfold fL_b470 at hf
  refine r_ald_n O 471 rfl 1 rfl dL_law_470 ?_
  obtain ⟨x471, p471_t, p471_w, p471_H, hq471, hf⟩ := qb4_some hf
  refine k_VI O 474 rfl (zX9_undo (l := xl X) (D := xD X) (cI := cI) (cZ := cZ) (cQ := cQ) (h_t := h_t) (h_w := h_w) (r_b := (h_b 0)) (r_l := (h_l 0)) (h_H := h_H) (h_k0 := h_k0) (h_k1 := h_k1) (h_k2 := h_k2) (h_k3 := h_k3) (h_k4 := h_k4) (h_k5 := h_k5) (h_k6 := h_k6) (h_k7 := h_k7) (r_x := (h_x 0)) (r_T := (h_T 0)) (r_C := (h_C 0)) (r_d := (h_d 0)) (r_F := (h_F 0)) (r_r := (h_r 0)) (r_n := (h_n 0)) hq471) (gV mlL_41 mvX9_undo izX9) rfl rfl rfl hdX9_undo ⟨Nat.le_of_ble_eq_true rfl, Nat.le_of_ble_eq_true rfl⟩ rfl 0 rfl rfl rfl rfl (Nat.le_of_ble_eq_true rfl) ⟨Nat.le_of_ble_eq_true rfl, Nat.le_of_ble_eq_true rfl⟩ [0, 1, 4, 5, 6, 7, 8, 9, 10, 11, 12] rfl rfl rfl ([nX9 cI cZ cQ h_t (h_w 0) (h_b 0) (h_l 0) (h_H 0) (h_x 0) (h_T 0) (h_C 0) (h_d 0) (h_F 0) (h_r 0) (h_n 0) p471_t, nX8 cI cZ cQ h_w p471_w, nX8 cI cZ cQ h_b w_b, nX8 cI cZ cQ h_l w_l, nX2 cI cZ cQ h_H (hkf h_k0 h_k1 h_k2 h_k3 h_k4 h_k5 h_k6 h_k7) p471_H, nX8 cI cZ cQ h_k0 w_k0, nX8 cI cZ cQ h_k1 w_k1, nX8 cI cZ cQ h_k2 w_k2, nX8 cI cZ cQ h_k3 w_k3, nX8 cI cZ cQ h_k4 w_k4, nX8 cI cZ cQ h_k5 w_k5, nX8 cI cZ cQ h_k6 w_k6, nX8 cI cZ cQ h_k7 w_k7, nX7 cI cZ cQ h_x w_x, nX6 cI cZ cQ h_T (h_w 0) (h_L 0) (h_P 0) w_T, nX4 cI cZ cQ h_L (h_w 0) w_L, nX4 cI cZ cQ h_P (h_w 0) w_P, nX6 cI cZ cQ h_C (h_w 0) (h_M 0) (h_Q 0) w_C, nX4 cI cZ cQ h_M (h_w 0) w_M, nX4 cI cZ cQ h_Q (h_w 0) w_Q, nX0 cI cZ cQ h_d (h_w 0) (h_T 0) w_d, nX1 cI cZ cQ h_F (h_G 0) w_F, nX4 cI cZ cQ h_G (h_w 0) w_G, nX5 cI cZ cQ h_r (h_w 0) w_r, nX3 cI cZ cQ h_n (h_w 0) w_n, nX10 cI cZ cQ h_m w_m]) rfl dL_law_471 ?_
  refine r_ald_n O 475 rfl 2 rfl dL_law_474 ?_
  obtain ⟨x475, p475_m, hq475, hf⟩ := qb2_some hf
  refine k_VI O 478 rfl (zX10_undo (l := xl X) (D := xD X) (cI := cI) (cZ := cZ) (cQ := cQ) (h_t := h_m) hq475) (gV mlL_45 mvX10_undo izX10) rfl rfl rfl hdX10_undo ⟨Nat.le_of_ble_eq_true rfl, Nat.le_of_ble_eq_true rfl⟩ rfl 25 rfl rfl rfl rfl (Nat.le_of_ble_eq_true rfl) ⟨Nat.le_of_ble_eq_true rfl, Nat.le_of_ble_eq_true rfl⟩ [25] rfl rfl rfl ([nX9 cI cZ cQ h_t (h_w 0) (h_b 0) (h_l 0) (h_H 0) (h_x 0) (h_T 0) (h_C 0) (h_d 0) (h_F 0) (h_r 0) (h_n 0) p471_t, nX8 cI cZ cQ h_w p471_w, nX8 cI cZ cQ h_b w_b, nX8 cI cZ cQ h_l w_l, nX2 cI cZ cQ h_H (hkf h_k0 h_k1 h_k2 h_k3 h_k4 h_k5 h_k6 h_k7) p471_H, nX8 cI cZ cQ h_k0 w_k0, nX8 cI cZ cQ h_k1 w_k1, nX8 cI cZ cQ h_k2 w_k2, nX8 cI cZ cQ h_k3 w_k3, nX8 cI cZ cQ h_k4 w_k4, nX8 cI cZ cQ h_k5 w_k5, nX8 cI cZ cQ h_k6 w_k6, nX8 cI cZ cQ h_k7 w_k7, nX7 cI cZ cQ h_x w_x, nX6 cI cZ cQ h_T (h_w 0) (h_L 0) (h_P 0) w_T, nX4 cI cZ cQ h_L (h_w 0) w_L, nX4 cI cZ cQ h_P (h_w 0) w_P, nX6 cI cZ cQ h_C (h_w 0) (h_M 0) (h_Q 0) w_C, nX4 cI cZ cQ h_M (h_w 0) w_M, nX4 cI cZ cQ h_Q (h_w 0) w_Q, nX0 cI cZ cQ h_d (h_w 0) (h_T 0) w_d, nX1 cI cZ cQ h_F (h_G 0) w_F, nX4 cI cZ cQ h_G (h_w 0) w_G, nX5 cI cZ cQ h_r (h_w 0) w_r, nX3 cI cZ cQ h_n (h_w 0) w_n, nX10 cI cZ cQ h_m p475_m]) rfl dL_law_475 ?_
  refine r_icmp_eq O 481 rfl 1795 dL_law_478 (by decide) (fun hc478 => ?_) (fun hc478 => ?_)
  · rw [if_pos hc478] at hf
    exact lwB1795 O S E rec18 hrec18 _ _ _ _ _ _ _ _ _ _ _ _ _ _ _ _ _ _ _ _ _ _ _ _ _ _ _ hf
  · rw [if_neg hc478] at hf
    refine r_ic O 482 rfl 0 (by decide) dL_law_481 ?_
    exact absurd (qe1 hf) (by decide)
set_option maxHeartbeats 40000000 in
set_option maxRecDepth 100000 in
theorem lwB601 {X : Cx} {cI cZ cQ : ClassId} {bS L : Nat} {xs : Nat → Int32} (O : OK X cL_law 8 RL wB room_1 cI cZ cQ) (S : SX X bS L xs) (E : ∀ {pc : Nat} {ws : List va_W} {lv : List (Nat × Value)}, decode cL_law pc = .ok (.ireturn, 1) → BK X 8 177 15831 pc ws lv [.int 1]) {h_t h_w h_b h_l h_H h_k0 h_k1 h_k2 h_k3 h_k4 h_k5 h_k6 h_k7 h_x h_T h_L h_P h_C h_M h_Q h_d h_F h_G h_r h_n h_m : Nat → Nat} (rec18 : Pk → Pk → Pk → Pk → Pk → Pk → Pk → Pk → Pk → Pk → Pk → Pk → Pk → Pk → Pk → Pk → Pk → Pk → Pk → Pk → Pk → Pk → Pk → Pk → Pk → Pk → Int32 → Option Int32) (hrec18 : ∀ (w_t : Pk) (w_w : Pk) (w_b : Pk) (w_l : Pk) (w_H : Pk) (w_k0 : Pk) (w_k1 : Pk) (w_k2 : Pk) (w_k3 : Pk) (w_k4 : Pk) (w_k5 : Pk) (w_k6 : Pk) (w_k7 : Pk) (w_x : Pk) (w_T : Pk) (w_L : Pk) (w_P : Pk) (w_C : Pk) (w_M : Pk) (w_Q : Pk) (w_d : Pk) (w_F : Pk) (w_G : Pk) (w_r : Pk) (w_n : Pk) (w_m : Pk) (y3 : Int32), rec18 w_t w_w w_b w_l w_H w_k0 w_k1 w_k2 w_k3 w_k4 w_k5 w_k6 w_k7 w_x w_T w_L w_P w_C w_M w_Q w_d w_F w_G w_r w_n w_m y3 = some 1 → BK X 8 177 15831 18 ([nX9 cI cZ cQ h_t (h_w 0) (h_b 0) (h_l 0) (h_H 0) (h_x 0) (h_T 0) (h_C 0) (h_d 0) (h_F 0) (h_r 0) (h_n 0) w_t, nX8 cI cZ cQ h_w w_w, nX8 cI cZ cQ h_b w_b, nX8 cI cZ cQ h_l w_l, nX2 cI cZ cQ h_H (hkf h_k0 h_k1 h_k2 h_k3 h_k4 h_k5 h_k6 h_k7) w_H, nX8 cI cZ cQ h_k0 w_k0, nX8 cI cZ cQ h_k1 w_k1, nX8 cI cZ cQ h_k2 w_k2, nX8 cI cZ cQ h_k3 w_k3, nX8 cI cZ cQ h_k4 w_k4, nX8 cI cZ cQ h_k5 w_k5, nX8 cI cZ cQ h_k6 w_k6, nX8 cI cZ cQ h_k7 w_k7, nX7 cI cZ cQ h_x w_x, nX6 cI cZ cQ h_T (h_w 0) (h_L 0) (h_P 0) w_T, nX4 cI cZ cQ h_L (h_w 0) w_L, nX4 cI cZ cQ h_P (h_w 0) w_P, nX6 cI cZ cQ h_C (h_w 0) (h_M 0) (h_Q 0) w_C, nX4 cI cZ cQ h_M (h_w 0) w_M, nX4 cI cZ cQ h_Q (h_w 0) w_Q, nX0 cI cZ cQ h_d (h_w 0) (h_T 0) w_d, nX1 cI cZ cQ h_F (h_G 0) w_F, nX4 cI cZ cQ h_G (h_w 0) w_G, nX5 cI cZ cQ h_r (h_w 0) w_r, nX3 cI cZ cQ h_n (h_w 0) w_n, nX10 cI cZ cQ h_m w_m]) [(0, .ref bS), (1, .ref (h_t 0)), (2, .ref (h_m 0)), (3, .int y3)] []) : ∀ (w_t : Pk) (w_w : Pk) (w_b : Pk) (w_l : Pk) (w_H : Pk) (w_k0 : Pk) (w_k1 : Pk) (w_k2 : Pk) (w_k3 : Pk) (w_k4 : Pk) (w_k5 : Pk) (w_k6 : Pk) (w_k7 : Pk) (w_x : Pk) (w_T : Pk) (w_L : Pk) (w_P : Pk) (w_C : Pk) (w_M : Pk) (w_Q : Pk) (w_d : Pk) (w_F : Pk) (w_G : Pk) (w_r : Pk) (w_n : Pk) (w_m : Pk) (y3 : Int32), fL_b601 L xs rec18 w_t w_w w_b w_l w_H w_k0 w_k1 w_k2 w_k3 w_k4 w_k5 w_k6 w_k7 w_x w_T w_L w_P w_C w_M w_Q w_d w_F w_G w_r w_n w_m y3 = some 1 → BK X 8 177 15831 601 ([nX9 cI cZ cQ h_t (h_w 0) (h_b 0) (h_l 0) (h_H 0) (h_x 0) (h_T 0) (h_C 0) (h_d 0) (h_F 0) (h_r 0) (h_n 0) w_t, nX8 cI cZ cQ h_w w_w, nX8 cI cZ cQ h_b w_b, nX8 cI cZ cQ h_l w_l, nX2 cI cZ cQ h_H (hkf h_k0 h_k1 h_k2 h_k3 h_k4 h_k5 h_k6 h_k7) w_H, nX8 cI cZ cQ h_k0 w_k0, nX8 cI cZ cQ h_k1 w_k1, nX8 cI cZ cQ h_k2 w_k2, nX8 cI cZ cQ h_k3 w_k3, nX8 cI cZ cQ h_k4 w_k4, nX8 cI cZ cQ h_k5 w_k5, nX8 cI cZ cQ h_k6 w_k6, nX8 cI cZ cQ h_k7 w_k7, nX7 cI cZ cQ h_x w_x, nX6 cI cZ cQ h_T (h_w 0) (h_L 0) (h_P 0) w_T, nX4 cI cZ cQ h_L (h_w 0) w_L, nX4 cI cZ cQ h_P (h_w 0) w_P, nX6 cI cZ cQ h_C (h_w 0) (h_M 0) (h_Q 0) w_C, nX4 cI cZ cQ h_M (h_w 0) w_M, nX4 cI cZ cQ h_Q (h_w 0) w_Q, nX0 cI cZ cQ h_d (h_w 0) (h_T 0) w_d, nX1 cI cZ cQ h_F (h_G 0) w_F, nX4 cI cZ cQ h_G (h_w 0) w_G, nX5 cI cZ cQ h_r (h_w 0) w_r, nX3 cI cZ cQ h_n (h_w 0) w_n, nX10 cI cZ cQ h_m w_m]) [(0, .ref bS), (1, .ref (h_t 0)), (2, .ref (h_m 0)), (3, .int y3)] [] := by
  intro w_t w_w w_b w_l w_H w_k0 w_k1 w_k2 w_k3 w_k4 w_k5 w_k6 w_k7 w_x w_T w_L w_P w_C w_M w_Q w_d w_F w_G w_r w_n w_m y3 hf
  unfold fL_b601 at hf
  refine r_ald_n O 602 rfl 1 rfl dL_law_601 ?_
  obtain ⟨x602, p602_t, p602_w, p602_l, p602_H, p602_k0, p602_k1, p602_k2, p602_k3, p602_k4, p602_k5, p602_k6, p602_k7, p602_x, hq602, hf⟩ := qb14_some hf
  refine k_VI O 605 rfl (zX9_load (l := xl X) (D := xD X) (cI := cI) (cZ := cZ) (cQ := cQ) (h_t := h_t) (h_w := h_w) (r_b := (h_b 0)) (h_l := h_l) (h_H := h_H) (h_k0 := h_k0) (h_k1 := h_k1) (h_k2 := h_k2) (h_k3 := h_k3) (h_k4 := h_k4) (h_k5 := h_k5) (h_k6 := h_k6) (h_k7 := h_k7) (h_x := h_x) (r_T := (h_T 0)) (r_C := (h_C 0)) (r_d := (h_d 0)) (r_F := (h_F 0)) (r_r := (h_r 0)) (r_n := (h_n 0)) hq602) (gV mlL_70 mvX9_load izX9) rfl rfl rfl hdX9_load ⟨Nat.le_of_ble_eq_true rfl, Nat.le_of_ble_eq_true rfl⟩ rfl 0 rfl rfl rfl rfl (Nat.le_of_ble_eq_true rfl) ⟨Nat.le_of_ble_eq_true rfl, Nat.le_of_ble_eq_true rfl⟩ [0, 1, 3, 4, 5, 6, 7, 8, 9, 10, 11, 12, 13] rfl rfl rfl ([nX9 cI cZ cQ h_t (h_w 0) (h_b 0) (h_l 0) (h_H 0) (h_x 0) (h_T 0) (h_C 0) (h_d 0) (h_F 0) (h_r 0) (h_n 0) p602_t, nX8 cI cZ cQ h_w p602_w, nX8 cI cZ cQ h_b w_b, nX8 cI cZ cQ h_l p602_l, nX2 cI cZ cQ h_H (hkf h_k0 h_k1 h_k2 h_k3 h_k4 h_k5 h_k6 h_k7) p602_H, nX8 cI cZ cQ h_k0 p602_k0, nX8 cI cZ cQ h_k1 p602_k1, nX8 cI cZ cQ h_k2 p602_k2, nX8 cI cZ cQ h_k3 p602_k3, nX8 cI cZ cQ h_k4 p602_k4, nX8 cI cZ cQ h_k5 p602_k5, nX8 cI cZ cQ h_k6 p602_k6, nX8 cI cZ cQ h_k7 p602_k7, nX7 cI cZ cQ h_x p602_x, nX6 cI cZ cQ h_T (h_w 0) (h_L 0) (h_P 0) w_T, nX4 cI cZ cQ h_L (h_w 0) w_L, nX4 cI cZ cQ h_P (h_w 0) w_P, nX6 cI cZ cQ h_C (h_w 0) (h_M 0) (h_Q 0) w_C, nX4 cI cZ cQ h_M (h_w 0) w_M, nX4 cI cZ cQ h_Q (h_w 0) w_Q, nX0 cI cZ cQ h_d (h_w 0) (h_T 0) w_d, nX1 cI cZ cQ h_F (h_G 0) w_F, nX4 cI cZ cQ h_G (h_w 0) w_G, nX5 cI cZ cQ h_r (h_w 0) w_r, nX3 cI cZ cQ h_n (h_w 0) w_n, nX10 cI cZ cQ h_m w_m]) rfl dL_law_602 ?_
  refine r_ald_n O 606 rfl 2 rfl dL_law_605 ?_
  obtain ⟨x606, p606_m, hq606, hf⟩ := qb2_some hf
  refine k_VI O 609 rfl (zX10_load (l := xl X) (D := xD X) (cI := cI) (cZ := cZ) (cQ := cQ) (h_t := h_m) hq606) (gV mlL_73 mvX10_load izX10) rfl rfl rfl hdX10_load ⟨Nat.le_of_ble_eq_true rfl, Nat.le_of_ble_eq_true rfl⟩ rfl 25 rfl rfl rfl rfl (Nat.le_of_ble_eq_true rfl) ⟨Nat.le_of_ble_eq_true rfl, Nat.le_of_ble_eq_true rfl⟩ [25] rfl rfl rfl ([nX9 cI cZ cQ h_t (h_w 0) (h_b 0) (h_l 0) (h_H 0) (h_x 0) (h_T 0) (h_C 0) (h_d 0) (h_F 0) (h_r 0) (h_n 0) p602_t, nX8 cI cZ cQ h_w p602_w, nX8 cI cZ cQ h_b w_b, nX8 cI cZ cQ h_l p602_l, nX2 cI cZ cQ h_H (hkf h_k0 h_k1 h_k2 h_k3 h_k4 h_k5 h_k6 h_k7) p602_H, nX8 cI cZ cQ h_k0 p602_k0, nX8 cI cZ cQ h_k1 p602_k1, nX8 cI cZ cQ h_k2 p602_k2, nX8 cI cZ cQ h_k3 p602_k3, nX8 cI cZ cQ h_k4 p602_k4, nX8 cI cZ cQ h_k5 p602_k5, nX8 cI cZ cQ h_k6 p602_k6, nX8 cI cZ cQ h_k7 p602_k7, nX7 cI cZ cQ h_x p602_x, nX6 cI cZ cQ h_T (h_w 0) (h_L 0) (h_P 0) w_T, nX4 cI cZ cQ h_L (h_w 0) w_L, nX4 cI cZ cQ h_P (h_w 0) w_P, nX6 cI cZ cQ h_C (h_w 0) (h_M 0) (h_Q 0) w_C, nX4 cI cZ cQ h_M (h_w 0) w_M, nX4 cI cZ cQ h_Q (h_w 0) w_Q, nX0 cI cZ cQ h_d (h_w 0) (h_T 0) w_d, nX1 cI cZ cQ h_F (h_G 0) w_F, nX4 cI cZ cQ h_G (h_w 0) w_G, nX5 cI cZ cQ h_r (h_w 0) w_r, nX3 cI cZ cQ h_n (h_w 0) w_n, nX10 cI cZ cQ h_m p606_m]) rfl dL_law_606 ?_
  refine r_icmp_eq O 612 rfl 1795 dL_law_609 (by decide) (fun hc609 => ?_) (fun hc609 => ?_)
  · rw [if_pos hc609] at hf
    exact lwB1795 O S E rec18 hrec18 _ _ _ _ _ _ _ _ _ _ _ _ _ _ _ _ _ _ _ _ _ _ _ _ _ _ _ hf
  · rw [if_neg hc609] at hf
    refine r_ic O 613 rfl 0 (by decide) dL_law_612 ?_
    exact absurd (qe1 hf) (by decide)
