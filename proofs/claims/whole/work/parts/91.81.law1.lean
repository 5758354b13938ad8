theorem mlL_13 : Cond.methodLink RL 13 yX9_addWall ∈ wB := wB_at 418 (by decide +kernel) (by decide +kernel)
theorem mlL_17 : Cond.methodLink RL 17 yX10_addWall ∈ wB := wB_at 1456 (by decide +kernel) (by decide +kernel)
theorem mlL_18 : Cond.methodLink RL 18 yX9_removeWall ∈ wB := wB_at 460 (by decide +kernel) (by decide +kernel)
theorem mlL_22 : Cond.methodLink RL 22 yX10_removeWall ∈ wB := wB_at 1475 (by decide +kernel) (by decide +kernel)
theorem mlL_23 : Cond.methodLink RL 23 yX9_moveWall ∈ wB := wB_at 476 (by decide +kernel) (by decide +kernel)
theorem mlL_27 : Cond.methodLink RL 27 yX10_moveWall ∈ wB := wB_at 1487 (by decide +kernel) (by decide +kernel)
theorem mlL_28 : Cond.methodLink RL 28 yX9_turnWall ∈ wB := wB_at 503 (by decide +kernel) (by decide +kernel)
theorem mlL_31 : Cond.methodLink RL 31 yX10_turnWall ∈ wB := wB_at 1491 (by decide +kernel) (by decide +kernel)
theorem mlL_32 : Cond.methodLink RL 32 yX9_setKind ∈ wB := wB_at 515 (by decide +kernel) (by decide +kernel)
theorem mlL_36 : Cond.methodLink RL 36 yX10_setKind ∈ wB := wB_at 1495 (by decide +kernel) (by decide +kernel)
theorem mlL_37 : Cond.methodLink RL 37 yX9_setWeights ∈ wB := wB_at 523 (by decide +kernel) (by decide +kernel)
theorem mlL_40 : Cond.methodLink RL 40 yX10_setWeights ∈ wB := wB_at 1499 (by decide +kernel) (by decide +kernel)
theorem mlL_41 : Cond.methodLink RL 41 yX9_undo ∈ wB := wB_at 535 (by decide +kernel) (by decide +kernel)
theorem mlL_45 : Cond.methodLink RL 45 yX10_undo ∈ wB := wB_at 1507 (by decide +kernel) (by decide +kernel)
theorem mlL_46 : Cond.methodLink RL 46 yX9_wallCount ∈ wB := wB_at 551 (by decide +kernel) (by decide +kernel)
theorem mlL_49 : Cond.methodLink RL 49 yX10_wallCount ∈ wB := wB_at 1511 (by decide +kernel) (by decide +kernel)
theorem mlL_50 : Cond.methodLink RL 50 yX9_coordinate ∈ wB := wB_at 555 (by decide +kernel) (by decide +kernel)
theorem mlL_53 : Cond.methodLink RL 53 yX10_coordinate ∈ wB := wB_at 1512 (by decide +kernel) (by decide +kernel)
theorem mlL_54 : Cond.methodLink RL 54 yX9_kind ∈ wB := wB_at 559 (by decide +kernel) (by decide +kernel)
theorem mlL_57 : Cond.methodLink RL 57 yX10_kind ∈ wB := wB_at 1516 (by decide +kernel) (by decide +kernel)
theorem mlL_58 : Cond.methodLink RL 58 yX9_weights ∈ wB := wB_at 567 (by decide +kernel) (by decide +kernel)
theorem mlL_61 : Cond.methodLink RL 61 yX10_weights ∈ wB := wB_at 1520 (by decide +kernel) (by decide +kernel)
theorem mlL_62 : Cond.methodLink RL 62 yX9_appendText ∈ wB := wB_at 571 (by decide +kernel) (by decide +kernel)
theorem mlL_65 : Cond.methodLink RL 65 yX10_appendText ∈ wB := wB_at 1521 (by decide +kernel) (by decide +kernel)
theorem mlL_66 : Cond.methodLink RL 66 yX9_clearText ∈ wB := wB_at 587 (by decide +kernel) (by decide +kernel)
theorem mlL_69 : Cond.methodLink RL 69 yX10_clearText ∈ wB := wB_at 1525 (by decide +kernel) (by decide +kernel)
theorem mlL_70 : Cond.methodLink RL 70 yX9_load ∈ wB := wB_at 595 (by decide +kernel) (by decide +kernel)
theorem mlL_73 : Cond.methodLink RL 73 yX10_load ∈ wB := wB_at 1529 (by decide +kernel) (by decide +kernel)
theorem mlL_74 : Cond.methodLink RL 74 yX9_faultPlace ∈ wB := wB_at 631 (by decide +kernel) (by decide +kernel)
theorem mlL_77 : Cond.methodLink RL 77 yX10_faultPlace ∈ wB := wB_at 1557 (by decide +kernel) (by decide +kernel)
theorem mlL_78 : Cond.methodLink RL 78 yX9_faultKind ∈ wB := wB_at 639 (by decide +kernel) (by decide +kernel)
theorem mlL_81 : Cond.methodLink RL 81 yX10_faultKind ∈ wB := wB_at 1561 (by decide +kernel) (by decide +kernel)
theorem mlL_82 : Cond.methodLink RL 82 yX9_faultItem ∈ wB := wB_at 647 (by decide +kernel) (by decide +kernel)
theorem mlL_85 : Cond.methodLink RL 85 yX10_faultItem ∈ wB := wB_at 1565 (by decide +kernel) (by decide +kernel)
theorem mlL_86 : Cond.methodLink RL 86 yX9_nodeCount ∈ wB := wB_at 655 (by decide +kernel) (by decide +kernel)
theorem mlL_89 : Cond.methodLink RL 89 yX10_nodeCount ∈ wB := wB_at 1569 (by decide +kernel) (by decide +kernel)
theorem mlL_90 : Cond.methodLink RL 90 yX9_nodeWall ∈ wB := wB_at 794 (by decide +kernel) (by decide +kernel)
theorem mlL_93 : Cond.methodLink RL 93 yX10_nodeWall ∈ wB := wB_at 1652 (by decide +kernel) (by decide +kernel)
theorem mlL_94 : Cond.methodLink RL 94 yX9_nodeChild ∈ wB := wB_at 803 (by decide +kernel) (by decide +kernel)
theorem mlL_97 : Cond.methodLink RL 97 yX10_nodeChild ∈ wB := wB_at 1656 (by decide +kernel) (by decide +kernel)
theorem mlL_98 : Cond.methodLink RL 98 yX9_nodeDepth ∈ wB := wB_at 815 (by decide +kernel) (by decide +kernel)
theorem mlL_101 : Cond.methodLink RL 101 yX10_nodeDepth ∈ wB := wB_at 1660 (by decide +kernel) (by decide +kernel)
theorem mlL_102 : Cond.methodLink RL 102 yX9_pieceCount ∈ wB := wB_at 823 (by decide +kernel) (by decide +kernel)
theorem mlL_105 : Cond.methodLink RL 105 yX10_pieceCount ∈ wB := wB_at 1664 (by decide +kernel) (by decide +kernel)
theorem mlL_106 : Cond.methodLink RL 106 yX9_pieceWall ∈ wB := wB_at 831 (by decide +kernel) (by decide +kernel)
theorem mlL_109 : Cond.methodLink RL 109 yX10_pieceWall ∈ wB := wB_at 1668 (by decide +kernel) (by decide +kernel)
theorem mlL_110 : Cond.methodLink RL 110 yX9_pieceNode ∈ wB := wB_at 844 (by decide +kernel) (by decide +kernel)
theorem mlL_113 : Cond.methodLink RL 113 yX10_pieceNode ∈ wB := wB_at 1672 (by decide +kernel) (by decide +kernel)
theorem mlL_114 : Cond.methodLink RL 114 yX9_pieceBound ∈ wB := wB_at 852 (by decide +kernel) (by decide +kernel)
theorem mlL_117 : Cond.methodLink RL 117 yX10_pieceBound ∈ wB := wB_at 1676 (by decide +kernel) (by decide +kernel)
theorem mlL_118 : Cond.methodLink RL 118 yX9_pieceLength ∈ wB := wB_at 864 (by decide +kernel) (by decide +kernel)
theorem mlL_122 : Cond.methodLink RL 122 yX10_pieceLength ∈ wB := wB_at 1680 (by decide +kernel) (by decide +kernel)
theorem mlL_123 : Cond.methodLink RL 123 yX9_locate ∈ wB := wB_at 891 (by decide +kernel) (by decide +kernel)
theorem mlL_126 : Cond.methodLink RL 126 yX10_locate ∈ wB := wB_at 1696 (by decide +kernel) (by decide +kernel)
theorem mlL_127 : Cond.methodLink RL 127 yX9_meanLeafDepth ∈ wB := wB_at 907 (by decide +kernel) (by decide +kernel)
theorem mlL_131 : Cond.methodLink RL 131 yX10_meanLeafDepth ∈ wB := wB_at 1703 (by decide +kernel) (by decide +kernel)
theorem mlL_132 : Cond.methodLink RL 132 yX9_buildCount ∈ wB := wB_at 919 (by decide +kernel) (by decide +kernel)
theorem mlL_135 : Cond.methodLink RL 135 yX10_buildCount ∈ wB := wB_at 1707 (by decide +kernel) (by decide +kernel)
theorem mlL_136 : Cond.methodLink RL 136 yX9_drawCount ∈ wB := wB_at 923 (by decide +kernel) (by decide +kernel)
theorem mlL_139 : Cond.methodLink RL 139 yX10_drawCount ∈ wB := wB_at 1711 (by decide +kernel) (by decide +kernel)
theorem mlL_140 : Cond.methodLink RL 140 yX9_drawPiece ∈ wB := wB_at 971 (by decide +kernel) (by decide +kernel)
theorem mlL_143 : Cond.methodLink RL 143 yX10_drawPiece ∈ wB := wB_at 1723 (by decide +kernel) (by decide +kernel)
theorem mlL_144 : Cond.methodLink RL 144 yX9_paintCount ∈ wB := wB_at 979 (by decide +kernel) (by decide +kernel)
theorem mlL_148 : Cond.methodLink RL 148 yX10_paintCount ∈ wB := wB_at 1727 (by decide +kernel) (by decide +kernel)
theorem mlL_149 : Cond.methodLink RL 149 yX9_paintedPiece ∈ wB := wB_at 1030 (by decide +kernel) (by decide +kernel)
theorem mlL_153 : Cond.methodLink RL 153 yX10_paintedPiece ∈ wB := wB_at 1749 (by decide +kernel) (by decide +kernel)
theorem mlL_154 : Cond.methodLink RL 154 yX9_blocker ∈ wB := wB_at 1037 (by decide +kernel) (by decide +kernel)
theorem mlL_157 : Cond.methodLink RL 157 yX10_blocker ∈ wB := wB_at 1753 (by decide +kernel) (by decide +kernel)
theorem mlL_158 : Cond.methodLink RL 158 yX9_columnWall ∈ wB := wB_at 1059 (by decide +kernel) (by decide +kernel)
theorem mlL_161 : Cond.methodLink RL 161 yX10_columnWall ∈ wB := wB_at 1769 (by decide +kernel) (by decide +kernel)
theorem mlL_162 : Cond.methodLink RL 162 yX9_columnDistance ∈ wB := wB_at 1063 (by decide +kernel) (by decide +kernel)
theorem mlL_165 : Cond.methodLink RL 165 yX10_columnDistance ∈ wB := wB_at 1777 (by decide +kernel) (by decide +kernel)
theorem mlL_166 : Cond.methodLink RL 166 yX9_paneCount ∈ wB := wB_at 1079 (by decide +kernel) (by decide +kernel)
theorem mlL_169 : Cond.methodLink RL 169 yX10_paneCount ∈ wB := wB_at 1781 (by decide +kernel) (by decide +kernel)
theorem mlL_170 : Cond.methodLink RL 170 yX9_seenColumns ∈ wB := wB_at 1088 (by decide +kernel) (by decide +kernel)
theorem mlL_173 : Cond.methodLink RL 173 yX10_seenColumns ∈ wB := wB_at 1785 (by decide +kernel) (by decide +kernel)
theorem mlL_174 : Cond.methodLink RL 174 yX9_seenPoints ∈ wB := wB_at 1092 (by decide +kernel) (by decide +kernel)
theorem mlL_177 : Cond.methodLink RL 177 yX10_seenPoints ∈ wB := wB_at 1789 (by decide +kernel) (by decide +kernel)
theorem mlL_178 : Cond.methodLink RL 178 yX9_lookout ∈ wB := wB_at 1108 (by decide +kernel) (by decide +kernel)
theorem mlL_181 : Cond.methodLink RL 181 yX10_lookout ∈ wB := wB_at 1797 (by decide +kernel) (by decide +kernel)
theorem mlL_182 : Cond.methodLink RL 182 yX9_walk ∈ wB := wB_at 1112 (by decide +kernel) (by decide +kernel)
theorem mlL_185 : Cond.methodLink RL 185 yX10_walk ∈ wB := wB_at 1801 (by decide +kernel) (by decide +kernel)
theorem mlL_186 : Cond.methodLink RL 186 yX9_wander ∈ wB := wB_at 1124 (by decide +kernel) (by decide +kernel)
theorem mlL_189 : Cond.methodLink RL 189 yX10_wander ∈ wB := wB_at 1813 (by decide +kernel) (by decide +kernel)
theorem mlL_190 : Cond.methodLink RL 190 yX9_nearestWall ∈ wB := wB_at 1139 (by decide +kernel) (by decide +kernel)
theorem mlL_193 : Cond.methodLink RL 193 yX10_nearestWall ∈ wB := wB_at 1822 (by decide +kernel) (by decide +kernel)
theorem mlL_194 : Cond.methodLink RL 194 yX9_clearance ∈ wB := wB_at 1175 (by decide +kernel) (by decide +kernel)
theorem mlL_198 : Cond.methodLink RL 198 yX10_clearance ∈ wB := wB_at 1834 (by decide +kernel) (by decide +kernel)
theorem mlL_199 : Cond.methodLink RL 199 yX9_piecesWith ∈ wB := wB_at 1189 (by decide +kernel) (by decide +kernel)
theorem mlL_202 : Cond.methodLink RL 202 yX10_piecesWith ∈ wB := wB_at 1840 (by decide +kernel) (by decide +kernel)
theorem mlL_203 : Cond.methodLink RL 203 yX9_bestWeights ∈ wB := wB_at 1193 (by decide +kernel) (by decide +kernel)
theorem mlL_206 : Cond.methodLink RL 206 yX10_bestWeights ∈ wB := wB_at 1844 (by decide +kernel) (by decide +kernel)
theorem mlL_207 : Cond.methodLink RL 207 yX9_leastPieces ∈ wB := wB_at 1201 (by decide +kernel) (by decide +kernel)
theorem mlL_210 : Cond.methodLink RL 210 yX10_leastPieces ∈ wB := wB_at 1848 (by decide +kernel) (by decide +kernel)
theorem mlL_211 : Cond.methodLink RL 211 yX9_bestRoot ∈ wB := wB_at 1231 (by decide +kernel) (by decide +kernel)
theorem mlL_214 : Cond.methodLink RL 214 yX10_bestRoot ∈ wB := wB_at 1868 (by decide +kernel) (by decide +kernel)
set_option maxHeartbeats 40000000 in
set_option maxRecDepth 100000 in
theorem lwB1795 {X : Cx} {cI cZ cQ : ClassId} {bS L : Nat} {xs : Nat → Int32} (O : OK X cL_law 8 RL wB room_1 cI cZ cQ) (S : SX X bS L xs) (E : ∀ {pc : Nat} {ws : List va_W} {lv : List (Nat × Value)}, decode cL_law pc = .ok (.ireturn, 1) → BK X 8 177 15831 pc ws lv [.int 1]) {h_t h_w h_b h_l h_H h_k0 h_k1 h_k2 h_k3 h_k4 h_k5 h_k6 h_k7 h_x h_T h_L h_P h_C h_M h_Q h_d h_F h_G h_r h_n h_m : Nat → Nat} (rec18 : Pk → Pk → Pk → Pk → Pk → Pk → Pk → Pk → Pk → Pk → Pk → Pk → Pk → Pk → Pk → Pk → Pk → Pk → Pk → Pk → Pk → Pk → Pk → Pk → Pk → Pk → Int32 → Option Int32) (hrec18 : ∀ (w_t : Pk) (w_w : Pk) (w_b : Pk) (w_l : Pk) (w_H : Pk) (w_k0 : Pk) (w_k1 : Pk) (w_k2 : Pk) (w_k3 : Pk) (w_k4 : Pk) (w_k5 : Pk) (w_k6 : Pk) (w_k7 : Pk) (w_x : Pk) (w_T : Pk) (w_L : Pk) (w_P : Pk) (w_C : Pk) (w_M : Pk) (w_Q : Pk) (w_d : Pk) (w_F : Pk) (w_G : Pk) (w_r : Pk) (w_n : Pk) (w_m : Pk) (y3 : Int32), rec18 w_t w_w w_b w_l w_H w_k0 w_k1 w_k2 w_k3 w_k4 w_k5 w_k6 w_k7 w_x w_T w_L w_P w_C w_M w_Q w_d w_F w_G w_r w_n w_m y3 = some 1 → BK X 8 177 15831 18 ([nX9 cI cZ cQ h_t (h_w 0) (h_b 0) (h_l 0) (h_H 0) (h_x 0) (h_T 0) (h_C 0) (h_d 0) (h_F 0) (h_r 0) (h_n 0) w_t, nX8 cI cZ cQ h_w w_w, nX8 cI cZ cQ h_b w_b, nX8 cI cZ cQ h_l w_l, nX2 cI cZ cQ h_H (hkf h_k0 h_k1 h_k2 h_k3 h_k4 h_k5 h_k6 h_k7) w_H, nX8 cI cZ cQ h_k0 w_k0, nX8 cI cZ cQ h_k1 w_k1, nX8 cI cZ cQ h_k2 w_k2, nX8 cI cZ cQ h_k3 w_k3, nX8 cI cZ cQ h_k4 w_k4, nX8 cI cZ cQ h_k5 w_k5, nX8 cI cZ cQ h_k6 w_k6, nX8 cI cZ cQ h_k7 w_k7, nX7 cI cZ cQ h_x w_x, nX6 cI cZ cQ h_T (h_w 0) (h_L 0) (h_P 0) w_T, nX4 cI cZ cQ h_L (h_w 0) w_L, nX4 cI cZ cQ h_P (h_w 0) w_P, nX6 cI cZ cQ h_C (h_w 0) (h_M 0) (h_Q 0) w_C, nX4 cI cZ cQ h_M (h_w 0) w_M, nX4 cI cZ cQ h_Q (h_w 0) w_Q, nX0 cI cZ cQ h_d (h_w 0) (h_T 0) w_d, nX1 cI cZ cQ h_F (h_G 0) w_F, nX4 cI cZ cQ h_G (h_w 0) w_G, nX5 cI cZ cQ h_r (h_w 0) w_r, nX3 cI cZ cQ h_n (h_w 0) w_n, nX10 cI cZ cQ h_m w_m]) [(0, .ref bS), (1, .ref (h_t 0)), (2, .ref (h_m 0)), (3, .int y3)] []) : ∀ (w_t : Pk) (w_w : Pk) (w_b : Pk) (w_l : Pk) (w_H : Pk) (w_k0 : Pk) (w_k1 : Pk) (w_k2 : Pk) (w_k3 : Pk) (w_k4 : Pk) (w_k5 : Pk) (w_k6 : Pk) (w_k7 : Pk) (w_x : Pk) (w_T : Pk) (w_L : Pk) (w_P : Pk) (w_C : Pk) (w_M : Pk) (w_Q : Pk) (w_d : Pk) (w_F : Pk) (w_G : Pk) (w_r : Pk) (w_n : Pk) (w_m : Pk) (y3 : Int32), fL_b1795 L xs rec18 w_t w_w w_b w_l w_H w_k0 w_k1 w_k2 w_k3 w_k4 w_k5 w_k6 w_k7 w_x w_T w_L w_P w_C w_M w_Q w_d w_F w_G w_r w_n w_m y3 = some 1 → BK X 8 177 15831 1795 ([nX9 cI cZ cQ h_t (h_w 0) (h_b 0) (h_l 0) (h_H 0) (h_x 0) (h_T 0) (h_C 0) (h_d 0) (h_F 0) (h_r 0) (h_n 0) w_t, nX8 cI cZ cQ h_w w_w, nX8 cI cZ cQ h_b w_b, nX8 cI cZ cQ h_l w_l, nX2 cI cZ cQ h_H (hkf h_k0 h_k1 h_k2 h_k3 h_k4 h_k5 h_k6 h_k7) w_H, nX8 cI cZ cQ h_k0 w_k0, nX8 cI cZ cQ h_k1 w_k1, nX8 cI cZ cQ h_k2 w_k2, nX8 cI cZ cQ h_k3 w_k3, nX8 cI cZ cQ h_k4 w_k4, nX8 cI cZ cQ h_k5 w_k5, nX8 cI cZ cQ h_k6 w_k6, nX8 cI cZ cQ h_k7 w_k7, nX7 cI cZ cQ h_x w_x, nX6 cI cZ cQ h_T (h_w 0) (h_L 0) (h_P 0) w_T, nX4 cI cZ cQ h_L (h_w 0) w_L, nX4 cI cZ cQ h_P (h_w 0) w_P, nX6 cI cZ cQ h_C (h_w 0) (h_M 0) (h_Q 0) w_C, nX4 cI cZ cQ h_M (h_w 0) w_M, nX4 cI cZ cQ h_Q (h_w 0) w_Q, nX0 cI cZ cQ h_d (h_w 0) (h_T 0) w_d, nX1 cI cZ cQ h_F (h_G 0) w_F, nX4 cI cZ cQ h_G (h_w 0) w_G, nX5 cI cZ cQ h_r (h_w 0) w_r, nX3 cI cZ cQ h_n (h_w 0) w_n, nX10 cI cZ cQ h_m w_m]) [(0, .ref bS), (1, .ref (h_t 0)), (2, .ref (h_m 0)), (3, .int y3)] [] := by
  intro w_t w_w w_b w_l w_H w_k0 w_k1 w_k2 w_k3 w_k4 w_k5 w_k6 w_k7 w_x w_T w_L w_P w_C w_M w_Q w_d w_F w_G w_r w_n w_m y3 hf
  unfold fL_b1795 at hf
  obtain ⟨x1795, ex1795, hf⟩ := qn_some hf
  refine r_iinc O 1798 rfl x1795 3 rfl (by rw [ex1795]; rfl) [(3, .int x1795), (0, .ref bS), (1, .ref (h_t 0)), (2, .ref (h_m 0))] dL_law_1795 (by decide) rfl ?_
  refine r_goto O 18 dL_law_1798 (by decide) ?_
  refine r_lv [1, 2, 3, 0] rfl ?_
  exact hrec18 _ _ _ _ _ _ _ _ _ _ _ _ _ _ _ _ _ _ _ _ _ _ _ _ _ _ _ hf
set_option maxHeartbeats 40000000 in
set_option maxRecDepth 100000 in
theorem lwB640 {X : Cx} {cI cZ cQ : ClassId} {bS L : Nat} {xs : Nat → Int32} (O : OK X cL_law 8 RL wB room_1 cI cZ cQ) (S : SX X bS L xs) (E : ∀ {pc : Nat} {ws : List va_W} {lv : List (Nat × Value)}, decode cL_law pc = .ok (.ireturn, 1) → BK X 8 177 15831 pc ws lv [.int 1]) {h_t h_w h_b h_l h_H h_k0 h_k1 h_k2 h_k3 h_k4 h_k5 h_k6 h_k7 h_x h_T h_L h_P h_C h_M h_Q h_d h_F h_G h_r h_n h_m : Nat → Nat} (rec18 : Pk → Pk → Pk → Pk → Pk → Pk → Pk → Pk → Pk → Pk → Pk → Pk → Pk → Pk → Pk → Pk → Pk → Pk → Pk → Pk → Pk → Pk → Pk → Pk → Pk → Pk → Int32 → Option Int32) (hrec18 : ∀ (w_t : Pk) (w_w : Pk) (w_b : Pk) (w_l : Pk) (w_H : Pk) (w_k0 : Pk) (w_k1 : Pk) (w_k2 : Pk) (w_k3 : Pk) (w_k4 : Pk) (w_k5 : Pk) (w_k6 : Pk) (w_k7 : Pk) (w_x : Pk) (w_T : Pk) (w_L : Pk) (w_P : Pk) (w_C : Pk) (w_M : Pk) (w_Q : Pk) (w_d : Pk) (w_F : Pk) (w_G : Pk) (w_r : Pk) (w_n : Pk) (w_m : Pk) (y3 : Int32), rec18 w_t w_w w_b w_l w_H w_k0 w_k1 w_k2 w_k3 w_k4 w_k5 w_k6 w_k7 w_x w_T w_L w_P w_C w_M w_Q w_d w_F w_G w_r w_n w_m y3 = some 1 → BK X 8 177 15831 18 ([nX9 cI cZ cQ h_t (h_w 0) (h_b 0) (h_l 0) (h_H 0) (h_x 0) (h_T 0) (h_C 0) (h_d 0) (h_F 0) (h_r 0) (h_n 0) w_t, nX8 cI cZ cQ h_w w_w, nX8 cI cZ cQ h_b w_b, nX8 cI cZ cQ h_l w_l, nX2 cI cZ cQ h_H (hkf h_k0 h_k1 h_k2 h_k3 h_k4 h_k5 h_k6 h_k7) w_H, nX8 cI cZ cQ h_k0 w_k0, nX8 cI cZ cQ h_k1 w_k1, nX8 cI cZ cQ h_k2 w_k2, nX8 cI cZ cQ h_k3 w_k3, nX8 cI cZ cQ h_k4 w_k4, nX8 cI cZ cQ h_k5 w_k5, nX8 cI cZ cQ h_k6 w_k6, nX8 cI cZ cQ h_k7 w_k7, nX7 cI cZ cQ h_x w_x, nX6 cI cZ cQ h_T (h_w 0) (h_L 0) (h_P 0) w_T, nX4 cI cZ cQ h_L (h_w 0) w_L, nX4 cI cZ cQ h_P (h_w 0) w_P, nX6 cI cZ cQ h_C (h_w 0) (h_M 0) (h_Q 0) w_C, nX4 cI cZ cQ h_M (h_w 0) w_M, nX4 cI cZ cQ h_Q (h_w 0) w_Q, nX0 cI cZ cQ h_d (h_w 0) (h_T 0) w_d, nX1 cI cZ cQ h_F (h_G 0) w_F, nX4 cI cZ cQ h_G (h_w 0) w_G, nX5 cI cZ cQ h_r (h_w 0) w_r, nX3 cI cZ cQ h_n (h_w 0) w_n, nX10 cI cZ cQ h_m w_m]) [(0, .ref bS), (1, .ref (h_t 0)), (2, .ref (h_m 0)), (3, .int y3)] []) : ∀ (w_t : Pk) (w_w : Pk) (w_b : Pk) (w_l : Pk) (w_H : Pk) (w_k0 : Pk) (w_k1 : Pk) (w_k2 : Pk) (w_k3 : Pk) (w_k4 : Pk) (w_k5 : Pk) (w_k6 : Pk) (w_k7 : Pk) (w_x : Pk) (w_T : Pk) (w_L : Pk) (w_P : Pk) (w_C : Pk) (w_M : Pk) (w_Q : Pk) (w_d : Pk) (w_F : Pk) (w_G : Pk) (w_r : Pk) (w_n : Pk) (w_m : Pk) (y3 : Int32), fL_b640 L xs rec18 w_t w_w w_b w_l w_H w_k0 w_k1 w_k2 w_k3 w_k4 w_k5 w_k6 w_k7 w_x w_T w_L w_P w_C w_M w_Q w_d w_F w_G w_r w_n w_m y3 = some 1 → BK X 8 177 15831 640 ([nX9 cI cZ cQ h_t (h_w 0) (h_b 0) (h_l 0) (h_H 0) (h_x 0) (h_T 0) (h_C 0) (h_d 0) (h_F 0) (h_r 0) (h_n 0) w_t, nX8 cI cZ cQ h_w w_w, nX8 cI cZ cQ h_b w_b, nX8 cI cZ cQ h_l w_l, nX2 cI cZ cQ h_H (hkf h_k0 h_k1 h_k2 h_k3 h_k4 h_k5 h_k6 h_k7) w_H, nX8 cI cZ cQ h_k0 w_k0, nX8 cI cZ cQ h_k1 w_k1, nX8 cI cZ cQ h_k2 w_k2, nX8 cI cZ cQ h_k3 w_k3, nX8 cI cZ cQ h_k4 w_k4, nX8 cI cZ cQ h_k5 w_k5, nX8 cI cZ cQ h_k6 w_k6, nX8 cI cZ cQ h_k7 w_k7, nX7 cI cZ cQ h_x w_x, nX6 cI cZ cQ h_T (h_w 0) (h_L 0) (h_P 0) w_T, nX4 cI cZ cQ h_L (h_w 0) w_L, nX4 cI cZ cQ h_P (h_w 0) w_P, nX6 cI cZ cQ h_C (h_w 0) (h_M 0) (h_Q 0) w_C, nX4 cI cZ cQ h_M (h_w 0) w_M, nX4 cI cZ cQ h_Q (h_w 0) w_Q, nX0 cI cZ cQ h_d (h_w 0) (h_T 0) w_d, nX1 cI cZ cQ h_F (h_G 0) w_F, nX4 cI cZ cQ h_G (h_w 0) w_G, nX5 cI cZ cQ h_r (h_w 0) w_r, nX3 cI cZ cQ h_n (h_w 0) w_n, nX10 cI cZ cQ h_m w_m]) [(0, .ref bS), (1, .ref (h_t 0)), (2, .ref (h_m 0)), (3, .int y3)] [] := by
  intro w_t w_w w_b w_l w_H w_k0 w_k1 w_k2 w_k3 w_k4 w_k5 w_k6 w_k7 w_x w_T w_L w_P w_C w_M w_Q w_d w_F w_G w_r w_n w_m y3 hf
  unfold fL_b640 at hf
  refine r_ald_n O 641 rfl 1 rfl dL_law_640 ?_
  obtain ⟨x641, hq641, hf⟩ := qb1_some hf
  refine k_VI O 644 rfl (zX9_faultItem (l := xl X) (D := xD X) (cI := cI) (cZ := cZ) (cQ := cQ) (h_t := h_t) (r_w := (h_w 0)) (r_b := (h_b 0)) (r_l := (h_l 0)) (r_H := (h_H 0)) (h_x := h_x) (r_T := (h_T 0)) (r_C := (h_C 0)) (r_d := (h_d 0)) (r_F := (h_F 0)) (r_r := (h_r 0)) (r_n := (h_n 0)) hq641) (gV mlL_82 mvX9_faultItem izX9) rfl rfl rfl hdX9_faultItem ⟨Nat.le_of_ble_eq_true rfl, Nat.le_of_ble_eq_true rfl⟩ rfl 0 rfl rfl rfl rfl (Nat.le_of_ble_eq_true rfl) ⟨Nat.le_of_ble_eq_true rfl, Nat.le_of_ble_eq_true rfl⟩ [0, 13] rfl rfl rfl ([nX9 cI cZ cQ h_t (h_w 0) (h_b 0) (h_l 0) (h_H 0) (h_x 0) (h_T 0) (h_C 0) (h_d 0) (h_F 0) (h_r 0) (h_n 0) w_t, nX8 cI cZ cQ h_w w_w, nX8 cI cZ cQ h_b w_b, nX8 cI cZ cQ h_l w_l, nX2 cI cZ cQ h_H (hkf h_k0 h_k1 h_k2 h_k3 h_k4 h_k5 h_k6 h_k7) w_H, nX8 cI cZ cQ h_k0 w_k0, nX8 cI cZ cQ h_k1 w_k1, nX8 cI cZ cQ h_k2 w_k2, nX8 cI cZ cQ h_k3 w_k3, nX8 cI cZ cQ h_k4 w_k4, nX8 cI cZ cQ h_k5 w_k5, nX8 cI cZ cQ h_k6 w_k6, nX8 cI cZ cQ h_k7 w_k7, nX7 cI cZ cQ h_x w_x, nX6 cI cZ cQ h_T (h_w 0) (h_L 0) (h_P 0) w_T, nX4 cI cZ cQ h_L (h_w 0) w_L, nX4 cI cZ cQ h_P (h_w 0) w_P, nX6 cI cZ cQ h_C (h_w 0) (h_M 0) (h_Q 0) w_C, nX4 cI cZ cQ h_M (h_w 0) w_M, nX4 cI cZ cQ h_Q (h_w 0) w_Q, nX0 cI cZ cQ h_d (h_w 0) (h_T 0) w_d, nX1 cI cZ cQ h_F (h_G 0) w_F, nX4 cI cZ cQ h_G (h_w 0) w_G, nX5 cI cZ cQ h_r (h_w 0) w_r, nX3 cI cZ cQ h_n (h_w 0) w_n, nX10 cI cZ cQ h_m w_m]) rfl dL_law_641 ?_
  refine r_ald_n O 645 rfl 2 rfl dL_law_644 ?_
  obtain ⟨x645, hq645, hf⟩ := qb1_some hf
  refine k_VI O 648 rfl (zX10_faultItem (l := xl X) (D := xD X) (cI := cI) (cZ := cZ) (cQ := cQ) (h_t := h_m) hq645) (gV mlL_85 mvX10_faultItem izX10) rfl rfl rfl hdX10_faultItem ⟨Nat.le_of_ble_eq_true rfl, Nat.le_of_ble_eq_true rfl⟩ rfl 25 rfl rfl rfl rfl (Nat.le_of_ble_eq_true rfl) ⟨Nat.le_of_ble_eq_true rfl, Nat.le_of_ble_eq_true rfl⟩ [25] rfl rfl rfl ([nX9 cI cZ cQ h_t (h_w 0) (h_b 0) (h_l 0) (h_H 0) (h_x 0) (h_T 0) (h_C 0) (h_d 0) (h_F 0) (h_r 0) (h_n 0) w_t, nX8 cI cZ cQ h_w w_w, nX8 cI cZ cQ h_b w_b, nX8 cI cZ cQ h_l w_l, nX2 cI cZ cQ h_H (hkf h_k0 h_k1 h_k2 h_k3 h_k4 h_k5 h_k6 h_k7) w_H, nX8 cI cZ cQ h_k0 w_k0, nX8 cI cZ cQ h_k1 w_k1, nX8 cI cZ cQ h_k2 w_k2, nX8 cI cZ cQ h_k3 w_k3, nX8 cI cZ cQ h_k4 w_k4, nX8 cI cZ cQ h_k5 w_k5, nX8 cI cZ cQ h_k6 w_k6, nX8 cI cZ cQ h_k7 w_k7, nX7 cI cZ cQ h_x w_x, nX6 cI cZ cQ h_T (h_w 0) (h_L 0) (h_P 0) w_T, nX4 cI cZ cQ h_L (h_w 0) w_L, nX4 cI cZ cQ h_P (h_w 0) w_P, nX6 cI cZ cQ h_C (h_w 0) (h_M 0) (h_Q 0) w_C, nX4 cI cZ cQ h_M (h_w 0) w_M, nX4 cI cZ cQ h_Q (h_w 0) w_Q, nX0 cI cZ cQ h_d (h_w 0) (h_T 0) w_d, nX1 cI cZ cQ h_F (h_G 0) w_F, nX4 cI cZ cQ h_G (h_w 0) w_G, nX5 cI cZ cQ h_r (h_w 0) w_r, nX3 cI cZ cQ h_n (h_w 0) w_n, nX10 cI cZ cQ h_m w_m]) rfl dL_law_645 ?_
  refine r_icmp_eq O 651 rfl 1795 dL_law_648 (by decide) (fun hc648 => ?_) (fun hc648 => ?_)
  · rw [if_pos hc648] at hf
    exact lwB1795 O S E rec18 hrec18 _ _ _ _ _ _ _ _ _ _ _ _ _ _ _ _ _ _ _ _ _ _ _ _ _ _ _ hf
  · rw [if_neg hc648] at hf
    refine r_ic O 652 rfl 0 (by decide) dL_law_651 ?_
    exact absurd (qe1 hf) (by decide)
set_option maxHeartbeats 40000000 in
set_option maxRecDepth 100000 in
theorem lwB1283 {X : Cx} {cI cZ cQ : ClassId} {bS L : Nat} {xs : Nat → Int32} (O : OK X cL_law 8 RL wB room_1 cI cZ cQ) (S : SX X bS L xs) (E : ∀ {pc : Nat} {ws : List va_W} {lv : List (Nat × Value)}, decode cL_law pc = .ok (.ireturn, 1) → BK X 8 177 15831 pc ws lv [.int 1]) {h_t h_w h_b h_l h_H h_k0 h_k1 h_k2 h_k3 h_k4 h_k5 h_k6 h_k7 h_x h_T h_L h_P h_C h_M h_Q h_d h_F h_G h_r h_n h_m : Nat → Nat} (rec18 : Pk → Pk → Pk → Pk → Pk → Pk → Pk → Pk → Pk → Pk → Pk → Pk → Pk → Pk → Pk → Pk → Pk → Pk → Pk → Pk → Pk → Pk → Pk → Pk → Pk → Pk → Int32 → Option Int32) (hrec18 : ∀ (w_t : Pk) (w_w : Pk) (w_b : Pk) (w_l : Pk) (w_H : Pk) (w_k0 : Pk) (w_k1 : Pk) (w_k2 : Pk) (w_k3 : Pk) (w_k4 : Pk) (w_k5 : Pk) (w_k6 : Pk) (w_k7 : Pk) (w_x : Pk) (w_T : Pk) (w_L : Pk) (w_P : Pk) (w_C : Pk) (w_M : Pk) (w_Q : Pk) (w_d : Pk) (w_F : Pk) (w_G : Pk) (w_r : Pk) (w_n : Pk) (w_m : Pk) (y3 : Int32), rec18 w_t w_w w_b w_l w_H w_k0 w_k1 w_k2 w_k3 w_k4 w_k5 w_k6 w_k7 w_x w_T w_L w_P w_C w_M w_Q w_d w_F w_G w_r w_n w_m y3 = some 1 → BK X 8 177 15831 18 ([nX9 cI cZ cQ h_t (h_w 0) (h_b 0) (h_l 0) (h_H 0) (h_x 0) (h_T 0) (h_C 0) (h_d 0) (h_F 0) (h_r 0) (h_n 0) w_t, nX8 cI cZ cQ h_w w_w, nX8 cI cZ cQ h_b w_b, nX8 cI cZ cQ h_l w_l, nX2 cI cZ cQ h_H (hkf h_k0 h_k1 h_k2 h_k3 h_k4 h_k5 h_k6 h_k7) w_H, nX8 cI cZ cQ h_k0 w_k0, nX8 cI cZ cQ h_k1 w_k1, nX8 cI cZ cQ h_k2 w_k2, nX8 cI cZ cQ h_k3 w_k3, nX8 cI cZ cQ h_k4 w_k4, nX8 cI cZ cQ h_k5 w_k5, nX8 cI cZ cQ h_k6 w_k6, nX8 cI cZ cQ h_k7 w_k7, nX7 cI cZ cQ h_x w_x, nX6 cI cZ cQ h_T (h_w 0) (h_L 0) (h_P 0) w_T, nX4 cI cZ cQ h_L (h_w 0) w_L, nX4 cI cZ cQ h_P (h_w 0) w_P, nX6 cI cZ cQ h_C (h_w 0) (h_M 0) (h_Q 0) w_C, nX4 cI cZ cQ h_M (h_w 0) w_M, nX4 cI cZ cQ h_Q (h_w 0) w_Q, nX0 cI cZ cQ h_d (h_w 0) (h_T 0) w_d, nX1 cI cZ cQ h_F (h_G 0) w_F, nX4 cI cZ cQ h_G (h_w 0) w_G, nX5 cI cZ cQ h_r (h_w 0) w_r, nX3 cI cZ cQ h_n (h_w 0) w_n, nX10 cI cZ cQ h_m w_m]) [(0, .ref bS), (1, .ref (h_t 0)), (2, .ref (h_m 0)), (3, .int y3)] []) : ∀ (w_t : Pk) (w_w : Pk) (w_b : Pk) (w_l : Pk) (w_H : Pk) (w_k0 : Pk) (w_k1 : Pk) (w_k2 : Pk) (w_k3 : Pk) (w_k4 : Pk) (w_k5 : Pk) (w_k6 : Pk) (w_k7 : Pk) (w_x : Pk) (w_T : Pk) (w_L : Pk) (w_P : Pk) (w_C : Pk) (w_M : Pk) (w_Q : Pk) (w_d : Pk) (w_F : Pk) (w_G : Pk) (w_r : Pk) (w_n : Pk) (w_m : Pk) (y3 : Int32), fL_b1283 L xs rec18 w_t w_w w_b w_l w_H w_k0 w_k1 w_k2 w_k3 w_k4 w_k5 w_k6 w_k7 w_x w_T w_L w_P w_C w_M w_Q w_d w_F w_G w_r w_n w_m y3 = some 1 → BK X 8 177 15831 1283 ([nX9 cI cZ cQ h_t (h_w 0) (h_b 0) (h_l 0) (h_H 0) (h_x 0) (h_T 0) (h_C 0) (h_d 0) (h_F 0) (h_r 0) (h_n 0) w_t, nX8 cI cZ cQ h_w w_w, nX8 cI cZ cQ h_b w_b, nX8 cI cZ cQ h_l w_l, nX2 cI cZ cQ h_H (hkf h_k0 h_k1 h_k2 h_k3 h_k4 h_k5 h_k6 h_k7) w_H, nX8 cI cZ cQ h_k0 w_k0, nX8 cI cZ cQ h_k1 w_k1, nX8 cI cZ cQ h_k2 w_k2, nX8 cI cZ cQ h_k3 w_k3, nX8 cI cZ cQ h_k4 w_k4, nX8 cI cZ cQ h_k5 w_k5, nX8 cI cZ cQ h_k6 w_k6, nX8 cI cZ cQ h_k7 w_k7, nX7 cI cZ cQ h_x w_x, nX6 cI cZ cQ h_T (h_w 0) (h_L 0) (h_P 0) w_T, nX4 cI cZ cQ h_L (h_w 0) w_L, nX4 cI cZ cQ h_P (h_w 0) w_P, nX6 cI cZ cQ h_C (h_w 0) (h_M 0) (h_Q 0) w_C, nX4 cI cZ cQ h_M (h_w 0) w_M, nX4 cI cZ cQ h_Q (h_w 0) w_Q, nX0 cI cZ cQ h_d (h_w 0) (h_T 0) w_d, nX1 cI cZ cQ h_F (h_G 0) w_F, nX4 cI cZ cQ h_G (h_w 0) w_G, nX5 cI cZ cQ h_r (h_w 0) w_r, nX3 cI cZ cQ h_n (h_w 0) w_n, nX10 cI cZ cQ h_m w_m]) [(0, .ref bS), (1, .ref (h_t 0)), (2, .ref (h_m 0)), (3, .int y3)] [] := by
  intro w_t w_w w_b w_l w_H w_k0 w_k1 w_k2 w_k3 w_k4 w_k5 w_k6 w_k7 w_x w_T w_L w_P w_C w_M w_Q w_d w_F w_G w_r w_n w_m y3 hf
  unfold fL_b1283 at hf
  refine r_ald_n O 1284 rfl 1 rfl dL_law_1283 ?_
  refine r_ald_n O 1285 rfl 0 rfl dL_law_1284 ?_
  refine r_ild_n O 1286 rfl 3 rfl dL_law_1285 ?_
  refine r_ic O 1287 rfl 1 (by decide) dL_law_1286 ?_
  refine r_iadd O 1288 rfl dL_law_1287 ?_
  obtain ⟨x1288, ex1288, hin1288, hf⟩ := qld_some hf
  refine r_sld O S 1289 rfl hin1288 dL_law_1288 ?_
  rw [← ex1288]
  refine r_ald_n O 1290 rfl 0 rfl dL_law_1289 ?_
  refine r_ild_n O 1291 rfl 3 rfl dL_law_1290 ?_
  refine r_ic O 1292 rfl 2 (by decide) dL_law_1291 ?_
  refine r_iadd O 1293 rfl dL_law_1292 ?_
  obtain ⟨x1293, ex1293, hin1293, hf⟩ := qld_some hf
  refine r_sld O S 1294 rfl hin1293 dL_law_1293 ?_
  rw [← ex1293]
  refine r_ald_n O 1295 rfl 0 rfl dL_law_1294 ?_
  refine r_ild_n O 1296 rfl 3 rfl dL_law_1295 ?_
  refine r_ic O 1297 rfl 3 (by decide) dL_law_1296 ?_
  refine r_iadd O 1298 rfl dL_law_1297 ?_
  obtain ⟨x1298, ex1298, hin1298, hf⟩ := qld_some hf
  refine r_sld O S 1299 rfl hin1298 dL_law_1298 ?_
  rw [← ex1298]
  refine r_ald_n O 1300 rfl 0 rfl dL_law_1299 ?_
  refine r_ild_n O 1301 rfl 3 rfl dL_law_1300 ?_
  refine r_ic O 1302 rfl 4 (by decide) dL_law_1301 ?_
  refine r_iadd O 1303 rfl dL_law_1302 ?_
  obtain ⟨x1303, ex1303, hin1303, hf⟩ := qld_some hf
  refine r_sld O S 1304 rfl hin1303 dL_law_1303 ?_
  rw [← ex1303]
  refine r_ald_n O 1305 rfl 0 rfl dL_law_1304 ?_
  refine r_ild_n O 1306 rfl 3 rfl dL_law_1305 ?_
  refine r_ic O 1307 rfl 5 (by decide) dL_law_1306 ?_
  refine r_iadd O 1308 rfl dL_law_1307 ?_
  obtain ⟨x1308, ex1308, hin1308, hf⟩ := qld_some hf
  refine r_sld O S 1309 rfl hin1308 dL_law_1308 ?_
  rw [← ex1308]
  refine r_ald_n O 1310 rfl 0 rfl dL_law_1309 ?_
  refine r_ild_n O 1311 rfl 3 rfl dL_law_1310 ?_
  refine r_bi O 1313 rfl 6 (by decide) dL_law_1311 ?_
  refine r_iadd O 1314 rfl dL_law_1313 ?_
  obtain ⟨x1314, ex1314, hin1314, hf⟩ := qld_some hf
  refine r_sld O S 1315 rfl hin1314 dL_law_1314 ?_
  rw [← ex1314]
  obtain ⟨x1315, p1315_r, hq1315, hf⟩ := qb2_some hf
  refine k_VI O 1318 rfl (zX9_columnDistance (l := xl X) (D := xD X) (cI := cI) (cZ := cZ) (cQ := cQ) (h_t := h_t) (h_w := h_w) (r_b := (h_b 0)) (r_l := (h_l 0)) (r_H := (h_H 0)) (r_x := (h_x 0)) (r_T := (h_T 0)) (r_C := (h_C 0)) (r_d := (h_d 0)) (r_F := (h_F 0)) (h_r := h_r) (r_n := (h_n 0)) hq1315) (gV mlL_162 mvX9_columnDistance izX9) rfl rfl rfl hdX9_columnDistance ⟨Nat.le_of_ble_eq_true rfl, Nat.le_of_ble_eq_true rfl⟩ rfl 0 rfl rfl rfl rfl (Nat.le_of_ble_eq_true rfl) ⟨Nat.le_of_ble_eq_true rfl, Nat.le_of_ble_eq_true rfl⟩ [0, 1, 23] rfl rfl rfl ([nX9 cI cZ cQ h_t (h_w 0) (h_b 0) (h_l 0) (h_H 0) (h_x 0) (h_T 0) (h_C 0) (h_d 0) (h_F 0) (h_r 0) (h_n 0) w_t, nX8 cI cZ cQ h_w w_w, nX8 cI cZ cQ h_b w_b, nX8 cI cZ cQ h_l w_l, nX2 cI cZ cQ h_H (hkf h_k0 h_k1 h_k2 h_k3 h_k4 h_k5 h_k6 h_k7) w_H, nX8 cI cZ cQ h_k0 w_k0, nX8 cI cZ cQ h_k1 w_k1, nX8 cI cZ cQ h_k2 w_k2, nX8 cI cZ cQ h_k3 w_k3, nX8 cI cZ cQ h_k4 w_k4, nX8 cI cZ cQ h_k5 w_k5, nX8 cI cZ cQ h_k6 w_k6, nX8 cI cZ cQ h_k7 w_k7, nX7 cI cZ cQ h_x w_x, nX6 cI cZ cQ h_T (h_w 0) (h_L 0) (h_P 0) w_T, nX4 cI cZ cQ h_L (h_w 0) w_L, nX4 cI cZ cQ h_P (h_w 0) w_P, nX6 cI cZ cQ h_C (h_w 0) (h_M 0) (h_Q 0) w_C, nX4 cI cZ cQ h_M (h_w 0) w_M, nX4 cI cZ cQ h_Q (h_w 0) w_Q, nX0 cI cZ cQ h_d (h_w 0) (h_T 0) w_d, nX1 cI cZ cQ h_F (h_G 0) w_F, nX4 cI cZ cQ h_G (h_w 0) w_G, nX5 cI cZ cQ h_r (h_w 0) p1315_r, nX3 cI cZ cQ h_n (h_w 0) w_n, nX10 cI cZ cQ h_m w_m]) rfl dL_law_1315 ?_
  refine r_ald_n O 1319 rfl 2 rfl dL_law_1318 ?_
  refine r_ald_n O 1320 rfl 0 rfl dL_law_1319 ?_
  refine r_ild_n O 1321 rfl 3 rfl dL_law_1320 ?_
  refine r_ic O 1322 rfl 1 (by decide) dL_law_1321 ?_
  refine r_iadd O 1323 rfl dL_law_1322 ?_
  obtain ⟨x1323, ex1323, hin1323, hf⟩ := qld_some hf
  refine r_sld O S 1324 rfl hin1323 dL_law_1323 ?_
  rw [← ex1323]
  refine r_ald_n O 1325 rfl 0 rfl dL_law_1324 ?_
  refine r_ild_n O 1326 rfl 3 rfl dL_law_1325 ?_
  refine r_ic O 1327 rfl 2 (by decide) dL_law_1326 ?_
  refine r_iadd O 1328 rfl dL_law_1327 ?_
  obtain ⟨x1328, ex1328, hin1328, hf⟩ := qld_some hf
  refine r_sld O S 1329 rfl hin1328 dL_law_1328 ?_
  rw [← ex1328]
  refine r_ald_n O 1330 rfl 0 rfl dL_law_1329 ?_
  refine r_ild_n O 1331 rfl 3 rfl dL_law_1330 ?_
  refine r_ic O 1332 rfl 3 (by decide) dL_law_1331 ?_
  refine r_iadd O 1333 rfl dL_law_1332 ?_
  obtain ⟨x1333, ex1333, hin1333, hf⟩ := qld_some hf
  refine r_sld O S 1334 rfl hin1333 dL_law_1333 ?_
  rw [← ex1333]
  refine r_ald_n O 1335 rfl 0 rfl dL_law_1334 ?_
  refine r_ild_n O 1336 rfl 3 rfl dL_law_1335 ?_
  refine r_ic O 1337 rfl 4 (by decide) dL_law_1336 ?_
  refine r_iadd O 1338 rfl dL_law_1337 ?_
  obtain ⟨x1338, ex1338, hin1338, hf⟩ := qld_some hf
  refine r_sld O S 1339 rfl hin1338 dL_law_1338 ?_
  rw [← ex1338]
  refine r_ald_n O 1340 rfl 0 rfl dL_law_1339 ?_
  refine r_ild_n O 1341 rfl 3 rfl dL_law_1340 ?_
  refine r_ic O 1342 rfl 5 (by decide) dL_law_1341 ?_
  refine r_iadd O 1343 rfl dL_law_1342 ?_
  obtain ⟨x1343, ex1343, hin1343, hf⟩ := qld_some hf
  refine r_sld O S 1344 rfl hin1343 dL_law_1343 ?_
  rw [← ex1343]
  refine r_ald_n O 1345 rfl 0 rfl dL_law_1344 ?_
  refine r_ild_n O 1346 rfl 3 rfl dL_law_1345 ?_
  refine r_bi O 1348 rfl 6 (by decide) dL_law_1346 ?_
  refine r_iadd O 1349 rfl dL_law_1348 ?_
  obtain ⟨x1349, ex1349, hin1349, hf⟩ := qld_some hf
  refine r_sld O S 1350 rfl hin1349 dL_law_1349 ?_
  rw [← ex1349]
  obtain ⟨x1350, p1350_m, hq1350, hf⟩ := qb2_some hf
  refine k_VI O 1353 rfl (zX10_columnDistance (l := xl X) (D := xD X) (cI := cI) (cZ := cZ) (cQ := cQ) (h_t := h_m) hq1350) (gV mlL_165 mvX10_columnDistance izX10) rfl rfl rfl hdX10_columnDistance ⟨Nat.le_of_ble_eq_true rfl, Nat.le_of_ble_eq_true rfl⟩ rfl 25 rfl rfl rfl rfl (Nat.le_of_ble_eq_true rfl) ⟨Nat.le_of_ble_eq_true rfl, Nat.le_of_ble_eq_true rfl⟩ [25] rfl rfl rfl ([nX9 cI cZ cQ h_t (h_w 0) (h_b 0) (h_l 0) (h_H 0) (h_x 0) (h_T 0) (h_C 0) (h_d 0) (h_F 0) (h_r 0) (h_n 0) w_t, nX8 cI cZ cQ h_w w_w, nX8 cI cZ cQ h_b w_b, nX8 cI cZ cQ h_l w_l, nX2 cI cZ cQ h_H (hkf h_k0 h_k1 h_k2 h_k3 h_k4 h_k5 h_k6 h_k7) w_H, nX8 cI cZ cQ h_k0 w_k0, nX8 cI cZ cQ h_k1 w_k1, nX8 cI cZ cQ h_k2 w_k2, nX8 cI cZ cQ h_k3 w_k3, nX8 cI cZ cQ h_k4 w_k4, nX8 cI cZ cQ h_k5 w_k5, nX8 cI cZ cQ h_k6 w_k6, nX8 cI cZ cQ h_k7 w_k7, nX7 cI cZ cQ h_x w_x, nX6 cI cZ cQ h_T (h_w 0) (h_L 0) (h_P 0) w_T, nX4 cI cZ cQ h_L (h_w 0) w_L, nX4 cI cZ cQ h_P (h_w 0) w_P, nX6 cI cZ cQ h_C (h_w 0) (h_M 0) (h_Q 0) w_C, nX4 cI cZ cQ h_M (h_w 0) w_M, nX4 cI cZ cQ h_Q (h_w 0) w_Q, nX0 cI cZ cQ h_d (h_w 0) (h_T 0) w_d, nX1 cI cZ cQ h_F (h_G 0) w_F, nX4 cI cZ cQ h_G (h_w 0) w_G, nX5 cI cZ cQ h_r (h_w 0) p1315_r, nX3 cI cZ cQ h_n (h_w 0) w_n, nX10 cI cZ cQ h_m p1350_m]) rfl dL_law_1350 ?_
  refine r_icmp_eq O 1356 rfl 1795 dL_law_1353 (by decide) (fun hc1353 => ?_) (fun hc1353 => ?_)
  · rw [if_pos hc1353] at hf
    exact lwB1795 O S E rec18 hrec18 _ _ _ _ _ _ _ _ _ _ _ _ _ _ _ _ _ _ _ _ _ _ _ _ _ _ _ hf
  · rw [if_neg hc1353] at hf
    refine r_ic O 1357 rfl 0 (by decide) dL_law_1356 ?_
    exact absurd (qe1 hf) (by decide)
set_option maxHeartbeats 40000000 in
set_option maxRecDepth 100000 in
theorem lwB1540 {X : Cx} {cI cZ cQ : ClassId} {bS L : Nat} {xs : Nat → Int32} (O : OK X cL_law 8 RL wB room_1 cI cZ cQ) (S : SX X bS L xs) (E : ∀ {pc : Nat} {ws : List va_W} {lv : List (Nat × Value)}, decode cL_law pc = .ok (.ireturn, 1) → BK X 8 177 15831 pc ws lv [.int 1]) {h_t h_w h_b h_l h_H h_k0 h_k1 h_k2 h_k3 h_k4 h_k5 h_k6 h_k7 h_x h_T h_L h_P h_C h_M h_Q h_d h_F h_G h_r h_n h_m : Nat → Nat} (rec18 : Pk → Pk → Pk → Pk → Pk → Pk → Pk → Pk → Pk → Pk → Pk → Pk → Pk → Pk → Pk → Pk → Pk → Pk → Pk → Pk → Pk → Pk → Pk → Pk → Pk → Pk → Int32 → Option Int32) (hrec18 : ∀ (w_t : Pk) (w_w : Pk) (w_b : Pk) (w_l : Pk) (w_H : Pk) (w_k0 : Pk) (w_k1 : Pk) (w_k2 : Pk) (w_k3 : Pk) (w_k4 : Pk) (w_k5 : Pk) (w_k6 : Pk) (w_k7 : Pk) (w_x : Pk) (w_T : Pk) (w_L : Pk) (w_P : Pk) (w_C : Pk) (w_M : Pk) (w_Q : Pk) (w_d : Pk) (w_F : Pk) (w_G : Pk) (w_r : Pk) (w_n : Pk) (w_m : Pk) (y3 : Int32), rec18 w_t w_w w_b w_l w_H w_k0 w_k1 w_k2 w_k3 w_k4 w_k5 w_k6 w_k7 w_x w_T w_L w_P w_C w_M w_Q w_d w_F w_G w_r w_n w_m y3 = some 1 → BK X 8 177 15831 18 ([nX9 cI cZ cQ h_t (h_w 0) (h_b 0) (h_l 0) (h_H 0) (h_x 0) (h_T 0) (h_C 0) (h_d 0) (h_F 0) (h_r 0) (h_n 0) w_t, nX8 cI cZ cQ h_w w_w, nX8 cI cZ cQ h_b w_b, nX8 cI cZ cQ h_l w_l, nX2 cI cZ cQ h_H (hkf h_k0 h_k1 h_k2 h_k3 h_k4 h_k5 h_k6 h_k7) w_H, nX8 cI cZ cQ h_k0 w_k0, nX8 cI cZ cQ h_k1 w_k1, nX8 cI cZ cQ h_k2 w_k2, nX8 cI cZ cQ h_k3 w_k3, nX8 cI cZ cQ h_k4 w_k4, nX8 cI cZ cQ h_k5 w_k5, nX8 cI cZ cQ h_k6 w_k6, nX8 cI cZ cQ h_k7 w_k7, nX7 cI cZ cQ h_x w_x, nX6 cI cZ cQ h_T (h_w 0) (h_L 0) (h_P 0) w_T, nX4 cI cZ cQ h_L (h_w 0) w_L, nX4 cI cZ cQ h_P (h_w 0) w_P, nX6 cI cZ cQ h_C (h_w 0) (h_M 0) (h_Q 0) w_C, nX4 cI cZ cQ h_M (h_w 0) w_M, nX4 cI cZ cQ h_Q (h_w 0) w_Q, nX0 cI cZ cQ h_d (h_w 0) (h_T 0) w_d, nX1 cI cZ cQ h_F (h_G 0) w_F, nX4 cI cZ cQ h_G (h_w 0) w_G, nX5 cI cZ cQ h_r (h_w 0) w_r, nX3 cI cZ cQ h_n (h_w 0) w_n, nX10 cI cZ cQ h_m w_m]) [(0, .ref bS), (1, .ref (h_t 0)), (2, .ref (h_m 0)), (3, .int y3)] []) : ∀ (w_t : Pk) (w_w : Pk) (w_b : Pk) (w_l : Pk) (w_H : Pk) (w_k0 : Pk) (w_k1 : Pk) (w_k2 : Pk) (w_k3 : Pk) (w_k4 : Pk) (w_k5 : Pk) (w_k6 : Pk) (w_k7 : Pk) (w_x : Pk) (w_T : Pk) (w_L : Pk) (w_P : Pk) (w_C : Pk) (w_M : Pk) (w_Q : Pk) (w_d : Pk) (w_F : Pk) (w_G : Pk) (w_r : Pk) (w_n : Pk) (w_m : Pk) (y3 : Int32), fL_b1540 L xs rec18 w_t w_w w_b w_l w_H w_k0 w_k1 w_k2 w_k3 w_k4 w_k5 w_k6 w_k7 w_x w_T w_L w_P w_C w_M w_Q w_d w_F w_G w_r w_n w_m y3 = some 1 → BK X 8 177 15831 1540 ([nX9 cI cZ cQ h_t (h_w 0) (h_b 0) (h_l 0) (h_H 0) (h_x 0) (h_T 0) (h_C 0) (h_d 0) (h_F 0) (h_r 0) (h_n 0) w_t, nX8 cI cZ cQ h_w w_w, nX8 cI cZ cQ h_b w_b, nX8 cI cZ cQ h_l w_l, nX2 cI cZ cQ h_H (hkf h_k0 h_k1 h_k2 h_k3 h_k4 h_k5 h_k6 h_k7) w_H, nX8 cI cZ cQ h_k0 w_k0, nX8 cI cZ cQ h_k1 w_k1, nX8 cI cZ cQ h_k2 w_k2, nX8 cI cZ cQ h_k3 w_k3, nX8 cI cZ cQ h_k4 w_k4, nX8 cI cZ cQ h_k5 w_k5, nX8 cI cZ cQ h_k6 w_k6, nX8 cI cZ cQ h_k7 w_k7, nX7 cI cZ cQ h_x w_x, nX6 cI cZ cQ h_T (h_w 0) (h_L 0) (h_P 0) w_T, nX4 cI cZ cQ h_L (h_w 0) w_L, nX4 cI cZ cQ h_P (h_w 0) w_P, nX6 cI cZ cQ h_C (h_w 0) (h_M 0) (h_Q 0) w_C, nX4 cI cZ cQ h_M (h_w 0) w_M, nX4 cI cZ cQ h_Q (h_w 0) w_Q, nX0 cI cZ cQ h_d (h_w 0) (h_T 0) w_d, nX1 cI cZ cQ h_F (h_G 0) w_F, nX4 cI cZ cQ h_G (h_w 0) w_G, nX5 cI cZ cQ h_r (h_w 0) w_r, nX3 cI cZ cQ h_n (h_w 0) w_n, nX10 cI cZ cQ h_m w_m]) [(0, .ref bS), (1, .ref (h_t 0)), (2, .ref (h_m 0)), (3, .int y3)] [] := by
  intro w_t w_w w_b w_l w_H w_k0 w_k1 w_k2 w_k3 w_k4 w_k5 w_k6 w_k7 w_x w_T w_L w_P w_C w_M w_Q w_d w_F w_G w_r w_n w_m y3 hf
  unfold fL_b1540 at hf
  refine r_ald_n O 1541 rfl 1 rfl dL_law_1540 ?_
  refine r_ald_n O 1542 rfl 0 rfl dL_law_1541 ?_
  refine r_ild_n O 1543 rfl 3 rfl dL_law_1542 ?_
  refine r_ic O 1544 rfl 1 (by decide) dL_law_1543 ?_
  refine r_iadd O 1545 rfl dL_law_1544 ?_
  obtain ⟨x1545, ex1545, hin1545, hf⟩ := qld_some hf
  refine r_sld O S 1546 rfl hin1545 dL_law_1545 ?_
  rw [← ex1545]
  refine r_ald_n O 1547 rfl 0 rfl dL_law_1546 ?_
  refine r_ild_n O 1548 rfl 3 rfl dL_law_1547 ?_
  refine r_ic O 1549 rfl 2 (by decide) dL_law_1548 ?_
  refine r_iadd O 1550 rfl dL_law_1549 ?_
  obtain ⟨x1550, ex1550, hin1550, hf⟩ := qld_some hf
  refine r_sld O S 1551 rfl hin1550 dL_law_1550 ?_
  rw [← ex1550]
  refine r_ald_n O 1552 rfl 0 rfl dL_law_1551 ?_
  refine r_ild_n O 1553 rfl 3 rfl dL_law_1552 ?_
  refine r_ic O 1554 rfl 3 (by decide) dL_law_1553 ?_
  refine r_iadd O 1555 rfl dL_law_1554 ?_
  obtain ⟨x1555, ex1555, hin1555, hf⟩ := qld_some hf
  refine r_sld O S 1556 rfl hin1555 dL_law_1555 ?_
  rw [← ex1555]
  refine r_ald_n O 1557 rfl 0 rfl dL_law_1556 ?_
  refine r_ild_n O 1558 rfl 3 rfl dL_law_1557 ?_
  refine r_ic O 1559 rfl 4 (by decide) dL_law_1558 ?_
  refine r_iadd O 1560 rfl dL_law_1559 ?_
  obtain ⟨x1560, ex1560, hin1560, hf⟩ := qld_some hf
  refine r_sld O S 1561 rfl hin1560 dL_law_1560 ?_
  rw [← ex1560]
  obtain ⟨x1561, p1561_r, hq1561, hf⟩ := qb2_some hf
  refine k_VI O 1564 rfl (zX9_walk (l := xl X) (D := xD X) (cI := cI) (cZ := cZ) (cQ := cQ) (h_t := h_t) (h_w := h_w) (r_b := (h_b 0)) (r_l := (h_l 0)) (r_H := (h_H 0)) (r_x := (h_x 0)) (r_T := (h_T 0)) (r_C := (h_C 0)) (r_d := (h_d 0)) (r_F := (h_F 0)) (h_r := h_r) (r_n := (h_n 0)) hq1561) (gV mlL_182 mvX9_walk izX9) rfl rfl rfl hdX9_walk ⟨Nat.le_of_ble_eq_true rfl, Nat.le_of_ble_eq_true rfl⟩ rfl 0 rfl rfl rfl rfl (Nat.le_of_ble_eq_true rfl) ⟨Nat.le_of_ble_eq_true rfl, Nat.le_of_ble_eq_true rfl⟩ [0, 1, 23] rfl rfl rfl ([nX9 cI cZ cQ h_t (h_w 0) (h_b 0) (h_l 0) (h_H 0) (h_x 0) (h_T 0) (h_C 0) (h_d 0) (h_F 0) (h_r 0) (h_n 0) w_t, nX8 cI cZ cQ h_w w_w, nX8 cI cZ cQ h_b w_b, nX8 cI cZ cQ h_l w_l, nX2 cI cZ cQ h_H (hkf h_k0 h_k1 h_k2 h_k3 h_k4 h_k5 h_k6 h_k7) w_H, nX8 cI cZ cQ h_k0 w_k0, nX8 cI cZ cQ h_k1 w_k1, nX8 cI cZ cQ h_k2 w_k2, nX8 cI cZ cQ h_k3 w_k3, nX8 cI cZ cQ h_k4 w_k4, nX8 cI cZ cQ h_k5 w_k5, nX8 cI cZ cQ h_k6 w_k6, nX8 cI cZ cQ h_k7 w_k7, nX7 cI cZ cQ h_x w_x, nX6 cI cZ cQ h_T (h_w 0) (h_L 0) (h_P 0) w_T, nX4 cI cZ cQ h_L (h_w 0) w_L, nX4 cI cZ cQ h_P (h_w 0) w_P, nX6 cI cZ cQ h_C (h_w 0) (h_M 0) (h_Q 0) w_C, nX4 cI cZ cQ h_M (h_w 0) w_M, nX4 cI cZ cQ h_Q (h_w 0) w_Q, nX0 cI cZ cQ h_d (h_w 0) (h_T 0) w_d, nX1 cI cZ cQ h_F (h_G 0) w_F, nX4 cI cZ cQ h_G (h_w 0) w_G, nX5 cI cZ cQ h_r (h_w 0) p1561_r, nX3 cI cZ cQ h_n (h_w 0) w_n, nX10 cI cZ cQ h_m w_m]) rfl dL_law_1561 ?_
  refine r_ald_n O 1565 rfl 2 rfl dL_law_1564 ?_
  refine r_ald_n O 1566 rfl 0 rfl dL_law_1565 ?_
  refine r_ild_n O 1567 rfl 3 rfl dL_law_1566 ?_
  refine r_ic O 1568 rfl 1 (by decide) dL_law_1567 ?_
  refine r_iadd O 1569 rfl dL_law_1568 ?_
  obtain ⟨x1569, ex1569, hin1569, hf⟩ := qld_some hf
  refine r_sld O S 1570 rfl hin1569 dL_law_1569 ?_
  rw [← ex1569]
  refine r_ald_n O 1571 rfl 0 rfl dL_law_1570 ?_
  refine r_ild_n O 1572 rfl 3 rfl dL_law_1571 ?_
  refine r_ic O 1573 rfl 2 (by decide) dL_law_1572 ?_
  refine r_iadd O 1574 rfl dL_law_1573 ?_
  obtain ⟨x1574, ex1574, hin1574, hf⟩ := qld_some hf
  refine r_sld O S 1575 rfl hin1574 dL_law_1574 ?_
  rw [← ex1574]
  refine r_ald_n O 1576 rfl 0 rfl dL_law_1575 ?_
  refine r_ild_n O 1577 rfl 3 rfl dL_law_1576 ?_
  refine r_ic O 1578 rfl 3 (by decide) dL_law_1577 ?_
  refine r_iadd O 1579 rfl dL_law_1578 ?_
  obtain ⟨x1579, ex1579, hin1579, hf⟩ := qld_some hf
  refine r_sld O S 1580 rfl hin1579 dL_law_1579 ?_
  rw [← ex1579]
  refine r_ald_n O 1581 rfl 0 rfl dL_law_1580 ?_
  refine r_ild_n O 1582 rfl 3 rfl dL_law_1581 ?_
  refine r_ic O 1583 rfl 4 (by decide) dL_law_1582 ?_
  refine r_iadd O 1584 rfl dL_law_1583 ?_
  obtain ⟨x1584, ex1584, hin1584, hf⟩ := qld_some hf
  refine r_sld O S 1585 rfl hin1584 dL_law_1584 ?_
  rw [← ex1584]
  obtain ⟨x1585, p1585_m, hq1585, hf⟩ := qb2_some hf
  refine k_VI O 1588 rfl (zX10_walk (l := xl X) (D := xD X) (cI := cI) (cZ := cZ) (cQ := cQ) (h_t := h_m) hq1585) (gV mlL_185 mvX10_walk izX10) rfl rfl rfl hdX10_walk ⟨Nat.le_of_ble_eq_true rfl, Nat.le_of_ble_eq_true rfl⟩ rfl 25 rfl rfl rfl rfl (Nat.le_of_ble_eq_true rfl) ⟨Nat.le_of_ble_eq_true rfl, Nat.le_of_ble_eq_true rfl⟩ [25] rfl rfl rfl ([nX9 cI cZ cQ h_t (h_w 0) (h_b 0) (h_l 0) (h_H 0) (h_x 0) (h_T 0) (h_C 0) (h_d 0) (h_F 0) (h_r 0) (h_n 0) w_t, nX8 cI cZ cQ h_w w_w, nX8 cI cZ cQ h_b w_b, nX8 cI cZ cQ h_l w_l, nX2 cI cZ cQ h_H (hkf h_k0 h_k1 h_k2 h_k3 h_k4 h_k5 h_k6 h_k7) w_H, nX8 cI cZ cQ h_k0 w_k0, nX8 cI cZ cQ h_k1 w_k1, nX8 cI cZ cQ h_k2 w_k2, nX8 cI cZ cQ h_k3 w_k3, nX8 cI cZ cQ h_k4 w_k4, nX8 cI cZ cQ h_k5 w_k5, nX8 cI cZ cQ h_k6 w_k6, nX8 cI cZ cQ h_k7 w_k7, nX7 cI cZ cQ h_x w_x, nX6 cI cZ cQ h_T (h_w 0) (h_L 0) (h_P 0) w_T, nX4 cI cZ cQ h_L (h_w 0) w_L, nX4 cI cZ cQ h_P (h_w 0) w_P, nX6 cI cZ cQ h_C (h_w 0) (h_M 0) (h_Q 0) w_C, nX4 cI cZ cQ h_M (h_w 0) w_M, nX4 cI cZ cQ h_Q (h_w 0) w_Q, nX0 cI cZ cQ h_d (h_w 0) (h_T 0) w_d, nX1 cI cZ cQ h_F (h_G 0) w_F, nX4 cI cZ cQ h_G (h_w 0) w_G, nX5 cI cZ cQ h_r (h_w 0) p1561_r, nX3 cI cZ cQ h_n (h_w 0) w_n, nX10 cI cZ cQ h_m p1585_m]) rfl dL_law_1585 ?_
  refine r_icmp_eq O 1591 rfl 1795 dL_law_1588 (by decide) (fun hc1588 => ?_) (fun hc1588 => ?_)
  · rw [if_pos hc1588] at hf
    exact lwB1795 O S E rec18 hrec18 _ _ _ _ _ _ _ _ _ _ _ _ _ _ _ _ _ _ _ _ _ _ _ _ _ _ _ hf
  · rw [if_neg hc1588] at hf
    refine r_ic O 1592 rfl 0 (by decide) dL_law_1591 ?_
    exact absurd (qe1 hf) (by decide)
set_option maxHeartbeats 40000000 in
set_option maxRecDepth 100000 in
theorem lwB653 {X : Cx} {cI cZ cQ : ClassId} {bS L : Nat} {xs : Nat → Int32} (O : OK X cL_law 8 RL wB room_1 cI cZ cQ) (S : SX X bS L xs) (E : ∀ {pc : Nat} {ws : List va_W} {lv : List (Nat × Value)}, decode cL_law pc = .ok (.ireturn, 1) → BK X 8 177 15831 pc ws lv [.int 1]) {h_t h_w h_b h_l h_H h_k0 h_k1 h_k2 h_k3 h_k4 h_k5 h_k6 h_k7 h_x h_T h_L h_P h_C h_M h_Q h_d h_F h_G h_r h_n h_m : Nat → Nat} (rec18 : Pk → Pk → Pk → Pk → Pk → Pk → Pk → Pk → Pk → Pk → Pk → Pk → Pk → Pk → Pk → Pk → Pk → Pk → Pk → Pk → Pk → Pk → Pk → Pk → Pk → Pk → Int32 → Option Int32) (hrec18 : ∀ (w_t : Pk) (w_w : Pk) (w_b : Pk) (w_l : Pk) (w_H : Pk) (w_k0 : Pk) (w_k1 : Pk) (w_k2 : Pk) (w_k3 : Pk) (w_k4 : Pk) (w_k5 : Pk) (w_k6 : Pk) (w_k7 : Pk) (w_x : Pk) (w_T : Pk) (w_L : Pk) (w_P : Pk) (w_C : Pk) (w_M : Pk) (w_Q : Pk) (w_d : Pk) (w_F : Pk) (w_G : Pk) (w_r : Pk) (w_n : Pk) (w_m : Pk) (y3 : Int32), rec18 w_t w_w w_b w_l w_H w_k0 w_k1 w_k2 w_k3 w_k4 w_k5 w_k6 w_k7 w_x w_T w_L w_P w_C w_M w_Q w_d w_F w_G w_r w_n w_m y3 = some 1 → BK X 8 177 15831 18 ([nX9 cI cZ cQ h_t (h_w 0) (h_b 0) (h_l 0) (h_H 0) (h_x 0) (h_T 0) (h_C 0) (h_d 0) (h_F 0) (h_r 0) (h_n 0) w_t, nX8 cI cZ cQ h_w w_w, nX8 cI cZ cQ h_b w_b, nX8 cI cZ cQ h_l w_l, nX2 cI cZ cQ h_H (hkf h_k0 h_k1 h_k2 h_k3 h_k4 h_k5 h_k6 h_k7) w_H, nX8 cI cZ cQ h_k0 w_k0, nX8 cI cZ cQ h_k1 w_k1, nX8 cI cZ cQ h_k2 w_k2, nX8 cI cZ cQ h_k3 w_k3, nX8 cI cZ cQ h_k4 w_k4, nX8 cI cZ cQ h_k5 w_k5, nX8 cI cZ cQ h_k6 w_k6, nX8 cI cZ cQ h_k7 w_k7, nX7 cI cZ cQ h_x w_x, nX6 cI cZ cQ h_T (h_w 0) (h_L 0) (h_P 0) w_T, nX4 cI cZ cQ h_L (h_w 0) w_L, nX4 cI cZ cQ h_P (h_w 0) w_P, nX6 cI cZ cQ h_C (h_w 0) (h_M 0) (h_Q 0) w_C, nX4 cI cZ cQ h_M (h_w 0) w_M, nX4 cI cZ cQ h_Q (h_w 0) w_Q, nX0 cI cZ cQ h_d (h_w 0) (h_T 0) w_d, nX1 cI cZ cQ h_F (h_G 0) w_F, nX4 cI cZ cQ h_G (h_w 0) w_G, nX5 cI cZ cQ h_r (h_w 0) w_r, nX3 cI cZ cQ h_n (h_w 0) w_n, nX10 cI cZ cQ h_m w_m]) [(0, .ref bS), (1, .ref (h_t 0)), (2, .ref (h_m 0)), (3, .int y3)] []) : ∀ (w_t : Pk) (w_w : Pk) (w_b : Pk) (w_l : Pk) (w_H : Pk) (w_k0 : Pk) (w_k1 : Pk) (w_k2 : Pk) (w_k3 : Pk) (w_k4 : Pk) (w_k5 : Pk) (w_k6 : Pk) (w_k7 : Pk) (w_x : Pk) (w_T : Pk) (w_L : Pk) (w_P : Pk) (w_C : Pk) (w_M : Pk) (w_Q : Pk) (w_d : Pk) (w_F : Pk) (w_G : Pk) (w_r : Pk) (w_n : Pk) (w_m : Pk) (y3 : Int32), fL_b653 L xs rec18 w_t w_w w_b w_l w_H w_k0 w_k1 w_k2 w_k3 w_k4 w_k5 w_k6 w_k7 w_x w_T w_L w_P w_C w_M w_Q w_d w_F w_G w_r w_n w_m y3 = some 1 → BK X 8 177 15831 653 ([nX9 cI cZ cQ h_t (h_w 0) (h_b 0) (h_l 0) (h_H 0) (h_x 0) (h_T 0) (h_C 0) (h_d 0) (h_F 0) (h_r 0) (h_n 0) w_t, nX8 cI cZ cQ h_w w_w, nX8 cI cZ cQ h_b w_b, nX8 cI cZ cQ h_l w_l, nX2 cI cZ cQ h_H (hkf h_k0 h_k1 h_k2 h_k3 h_k4 h_k5 h_k6 h_k7) w_H, nX8 cI cZ cQ h_k0 w_k0, nX8 cI cZ cQ h_k1 w_k1, nX8 cI cZ cQ h_k2 w_k2, nX8 cI cZ cQ h_k3 w_k3, nX8 cI cZ cQ h_k4 w_k4, nX8 cI cZ cQ h_k5 w_k5, nX8 cI cZ cQ h_k6 w_k6, nX8 cI cZ cQ h_k7 w_k7, nX7 cI cZ cQ h_x w_x, nX6 cI cZ cQ h_T (h_w 0) (h_L 0) (h_P 0) w_T, nX4 cI cZ cQ h_L (h_w 0) w_L, nX4 cI cZ cQ h_P (h_w 0) w_P, nX6 cI cZ cQ h_C (h_w 0) (h_M 0) (h_Q 0) w_C, nX4 cI cZ cQ h_M (h_w 0) w_M, nX4 cI cZ cQ h_Q (h_w 0) w_Q, nX0 cI cZ cQ h_d (h_w 0) (h_T 0) w_d, nX1 cI cZ cQ h_F (h_G 0) w_F, nX4 cI cZ cQ h_G (h_w 0) w_G, nX5 cI cZ cQ h_r (h_w 0) w_r, nX3 cI cZ cQ h_n (h_w 0) w_n, nX10 cI cZ cQ h_m w_m]) [(0, .ref bS), (1, .ref (h_t 0)), (2, .ref (h_m 0)), (3, .int y3)] [] := by
  intro w_t w_w w_b w_l w_H w_k0 w_k1 w_k2 w_k3 w_k4 w_k5 w_k6 w_k7 w_x w_T w_L w_P w_C w_M w_Q w_d w_F w_G w_r w_n w_m y3 hf
  unfold fL_b653 at hf
  refine r_ald_n O 654 rfl 1 rfl dL_law_653 ?_
  obtain ⟨x654, p654_t, p654_b, p654_T, p654_L, p654_P, hq654, hf⟩ := qb6_some hf
  refine k_VI O 657 rfl (zX9_nodeCount (l := xl X) (D := xD X) (cI := cI) (cZ := cZ) (cQ := cQ) (h_t := h_t) (h_w := h_w) (h_b := h_b) (r_l := (h_l 0)) (r_H := (h_H 0)) (r_x := (h_x 0)) (h_T := h_T) (h_L := h_L) (h_P := h_P) (r_C := (h_C 0)) (r_d := (h_d 0)) (r_F := (h_F 0)) (r_r := (h_r 0)) (r_n := (h_n 0)) hq654) (gV mlL_86 mvX9_nodeCount izX9) rfl rfl rfl hdX9_nodeCount ⟨Nat.le_of_ble_eq_true rfl, Nat.le_of_ble_eq_true rfl⟩ rfl 0 rfl rfl rfl rfl (Nat.le_of_ble_eq_true rfl) ⟨Nat.le_of_ble_eq_true rfl, Nat.le_of_ble_eq_true rfl⟩ [0, 1, 2, 14, 15, 16] rfl rfl rfl ([nX9 cI cZ cQ h_t (h_w 0) (h_b 0) (h_l 0) (h_H 0) (h_x 0) (h_T 0) (h_C 0) (h_d 0) (h_F 0) (h_r 0) (h_n 0) p654_t, nX8 cI cZ cQ h_w w_w, nX8 cI cZ cQ h_b p654_b, nX8 cI cZ cQ h_l w_l, nX2 cI cZ cQ h_H (hkf h_k0 h_k1 h_k2 h_k3 h_k4 h_k5 h_k6 h_k7) w_H, nX8 cI cZ cQ h_k0 w_k0, nX8 cI cZ cQ h_k1 w_k1, nX8 cI cZ cQ h_k2 w_k2, nX8 cI cZ cQ h_k3 w_k3, nX8 cI cZ cQ h_k4 w_k4, nX8 cI cZ cQ h_k5 w_k5, nX8 cI cZ cQ h_k6 w_k6, nX8 cI cZ cQ h_k7 w_k7, nX7 cI cZ cQ h_x w_x, nX6 cI cZ cQ h_T (h_w 0) (h_L 0) (h_P 0) p654_T, nX4 cI cZ cQ h_L (h_w 0) p654_L, nX4 cI cZ cQ h_P (h_w 0) p654_P, nX6 cI cZ cQ h_C (h_w 0) (h_M 0) (h_Q 0) w_C, nX4 cI cZ cQ h_M (h_w 0) w_M, nX4 cI cZ cQ h_Q (h_w 0) w_Q, nX0 cI cZ cQ h_d (h_w 0) (h_T 0) w_d, nX1 cI cZ cQ h_F (h_G 0) w_F, nX4 cI cZ cQ h_G (h_w 0) w_G, nX5 cI cZ cQ h_r (h_w 0) w_r, nX3 cI cZ cQ h_n (h_w 0) w_n, nX10 cI cZ cQ h_m w_m]) rfl dL_law_654 ?_
  refine r_ald_n O 658 rfl 2 rfl dL_law_657 ?_
  obtain ⟨x658, p658_m, hq658, hf⟩ := qb2_some hf
  refine k_VI O 661 rfl (zX10_nodeCount (l := xl X) (D := xD X) (cI := cI) (cZ := cZ) (cQ := cQ) (h_t := h_m) hq658) (gV mlL_89 mvX10_nodeCount izX10) rfl rfl rfl hdX10_nodeCount ⟨Nat.le_of_ble_eq_true rfl, Nat.le_of_ble_eq_true rfl⟩ rfl 25 rfl rfl rfl rfl (Nat.le_of_ble_eq_true rfl) ⟨Nat.le_of_ble_eq_true rfl, Nat.le_of_ble_eq_true rfl⟩ [25] rfl rfl rfl ([nX9 cI cZ cQ h_t (h_w 0) (h_b 0) (h_l 0) (h_H 0) (h_x 0) (h_T 0) (h_C 0) (h_d 0) (h_F 0) (h_r 0) (h_n 0) p654_t, nX8 cI cZ cQ h_w w_w, nX8 cI cZ cQ h_b p654_b, nX8 cI cZ cQ h_l w_l, nX2 cI cZ cQ h_H (hkf h_k0 h_k1 h_k2 h_k3 h_k4 h_k5 h_k6 h_k7) w_H, nX8 cI cZ cQ h_k0 w_k0, nX8 cI cZ cQ h_k1 w_k1, nX8 cI cZ cQ h_k2 w_k2, nX8 cI cZ cQ h_k3 w_k3, nX8 cI cZ cQ h_k4 w_k4, nX8 cI cZ cQ h_k5 w_k5, nX8 cI cZ cQ h_k6 w_k6, nX8 cI cZ cQ h_k7 w_k7, nX7 cI cZ cQ h_x w_x, nX6 cI cZ cQ h_T (h_w 0) (h_L 0) (h_P 0) p654_T, nX4 cI cZ cQ h_L (h_w 0) p654_L, nX4 cI cZ cQ h_P (h_w 0) p654_P, nX6 cI cZ cQ h_C (h_w 0) (h_M 0) (h_Q 0) w_C, nX4 cI cZ cQ h_M (h_w 0) w_M, nX4 cI cZ cQ h_Q (h_w 0) w_Q, nX0 cI cZ cQ h_d (h_w 0) (h_T 0) w_d, nX1 cI cZ cQ h_F (h_G 0) w_F, nX4 cI cZ cQ h_G (h_w 0) w_G, nX5 cI cZ cQ h_r (h_w 0) w_r, nX3 cI cZ cQ h_n (h_w 0) w_n, nX10 cI cZ cQ h_m p658_m]) rfl dL_law_658 ?_
  refine r_icmp_eq O 664 rfl 1795 dL_law_661 (by decide) (fun hc661 => ?_) (fun hc661 => ?_)
  · rw [if_pos hc661] at hf
    exact lwB1795 O S E rec18 hrec18 _ _ _ _ _ _ _ _ _ _ _ _ _ _ _ _ _ _ _ _ _ _ _ _ _ _ _ hf
  · rw [if_neg hc661] at hf
    refine r_ic O 665 rfl 0 (by decide) dL_law_664 ?_
    exact absurd (qe1 hf) (by decide)
set_option maxHeartbeats 40000000 in
set_option maxRecDepth 100000 in
theorem lwB781 {X : Cx} {cI cZ cQ : ClassId} {bS L : Nat} {xs : Nat → Int32} (O : OK X cL_law 8 RL wB room_1 cI cZ cQ) (S : SX X bS L xs) (E : ∀ {pc : Nat} {ws : List va_W} {lv : List (Nat × Value)}, decode cL_law pc = .ok (.ireturn, 1) → BK X 8 177 15831 pc ws lv [.int 1]) {h_t h_w h_b h_l h_H h_k0 h_k1 h_k2 h_k3 h_k4 h_k5 h_k6 h_k7 h_x h_T h_L h_P h_C h_M h_Q h_d h_F h_G h_r h_n h_m : Nat → Nat} (rec18 : Pk → Pk → Pk → Pk → Pk → Pk → Pk → Pk → Pk → Pk → Pk → Pk → Pk → Pk → Pk → Pk → Pk → Pk → Pk → Pk → Pk → Pk → Pk → Pk → Pk → Pk → Int32 → Option Int32) (hrec18 : ∀ (w_t : Pk) (w_w : Pk) (w_b : Pk) (w_l : Pk) (w_H : Pk) (w_k0 : Pk) (w_k1 : Pk) (w_k2 : Pk) (w_k3 : Pk) (w_k4 : Pk) (w_k5 : Pk) (w_k6 : Pk) (w_k7 : Pk) (w_x : Pk) (w_T : Pk) (w_L : Pk) (w_P : Pk) (w_C : Pk) (w_M : Pk) (w_Q : Pk) (w_d : Pk) (w_F : Pk) (w_G : Pk) (w_r : Pk) (w_n : Pk) (w_m : Pk) (y3 : Int32), rec18 w_t w_w w_b w_l w_H w_k0 w_k1 w_k2 w_k3 w_k4 w_k5 w_k6 w_k7 w_x w_T w_L w_P w_C w_M w_Q w_d w_F w_G w_r w_n w_m y3 = some 1 → BK X 8 177 15831 18 ([nX9 cI cZ cQ h_t (h_w 0) (h_b 0) (h_l 0) (h_H 0) (h_x 0) (h_T 0) (h_C 0) (h_d 0) (h_F 0) (h_r 0) (h_n 0) w_t, nX8 cI cZ cQ h_w w_w, nX8 cI cZ cQ h_b w_b, nX8 cI cZ cQ h_l w_l, nX2 cI cZ cQ h_H (hkf h_k0 h_k1 h_k2 h_k3 h_k4 h_k5 h_k6 h_k7) w_H, nX8 cI cZ cQ h_k0 w_k0, nX8 cI cZ cQ h_k1 w_k1, nX8 cI cZ cQ h_k2 w_k2, nX8 cI cZ cQ h_k3 w_k3, nX8 cI cZ cQ h_k4 w_k4, nX8 cI cZ cQ h_k5 w_k5, nX8 cI cZ cQ h_k6 w_k6, nX8 cI cZ cQ h_k7 w_k7, nX7 cI cZ cQ h_x w_x, nX6 cI cZ cQ h_T (h_w 0) (h_L 0) (h_P 0) w_T, nX4 cI cZ cQ h_L (h_w 0) w_L, nX4 cI cZ cQ h_P (h_w 0) w_P, nX6 cI cZ cQ h_C (h_w 0) (h_M 0) (h_Q 0) w_C, nX4 cI cZ cQ h_M (h_w 0) w_M, nX4 cI cZ cQ h_Q (h_w 0) w_Q, nX0 cI cZ cQ h_d (h_w 0) (h_T 0) w_d, nX1 cI cZ cQ h_F (h_G 0) w_F, nX4 cI cZ cQ h_G (h_w 0) w_G, nX5 cI cZ cQ h_r (h_w 0) w_r, nX3 cI cZ cQ h_n (h_w 0) w_n, nX10 cI cZ cQ h_m w_m]) [(0, .ref bS), (1, .ref (h_t 0)), (2, .ref (h_m 0)), (3, .int y3)] []) : ∀ (w_t : Pk) (w_w : Pk) (w_b : Pk) (w_l : Pk) (w_H : Pk) (w_k0 : Pk) (w_k1 : Pk) (w_k2 : Pk) (w_k3 : Pk) (w_k4 : Pk) (w_k5 : Pk) (w_k6 : Pk) (w_k7 : Pk) (w_x : Pk) (w_T : Pk) (w_L : Pk) (w_P : Pk) (w_C : Pk) (w_M : Pk) (w_Q : Pk) (w_d : Pk) (w_F : Pk) (w_G : Pk) (w_r : Pk) (w_n : Pk) (w_m : Pk) (y3 : Int32), fL_b781 L xs rec18 w_t w_w w_b w_l w_H w_k0 w_k1 w_k2 w_k3 w_k4 w_k5 w_k6 w_k7 w_x w_T w_L w_P w_C w_M w_Q w_d w_F w_G w_r w_n w_m y3 = some 1 → BK X 8 177 15831 781 ([nX9 cI cZ cQ h_t (h_w 0) (h_b 0) (h_l 0) (h_H 0) (h_x 0) (h_T 0) (h_C 0) (h_d 0) (h_F 0) (h_r 0) (h_n 0) w_t, nX8 cI cZ cQ h_w w_w, nX8 cI cZ cQ h_b w_b, nX8 cI cZ cQ h_l w_l, nX2 cI cZ cQ h_H (hkf h_k0 h_k1 h_k2 h_k3 h_k4 h_k5 h_k6 h_k7) w_H, nX8 cI cZ cQ h_k0 w_k0, nX8 cI cZ cQ h_k1 w_k1, nX8 cI cZ cQ h_k2 w_k2, nX8 cI cZ cQ h_k3 w_k3, nX8 cI cZ cQ h_k4 w_k4, nX8 cI cZ cQ h_k5 w_k5, nX8 cI cZ cQ h_k6 w_k6, nX8 cI cZ cQ h_k7 w_k7, nX7 cI cZ cQ h_x w_x, nX6 cI cZ cQ h_T (h_w 0) (h_L 0) (h_P 0) w_T, nX4 cI cZ cQ h_L (h_w 0) w_L, nX4 cI cZ cQ h_P (h_w 0) w_P, nX6 cI cZ cQ h_C (h_w 0) (h_M 0) (h_Q 0) w_C, nX4 cI cZ cQ h_M (h_w 0) w_M, nX4 cI cZ cQ h_Q (h_w 0) w_Q, nX0 cI cZ cQ h_d (h_w 0) (h_T 0) w_d, nX1 cI cZ cQ h_F (h_G 0) w_F, nX4 cI cZ cQ h_G (h_w 0) w_G, nX5 cI cZ cQ h_r (h_w 0) w_r, nX3 cI cZ cQ h_n (h_w 0) w_n, nX10 cI cZ cQ h_m w_m]) [(0, .ref bS), (1, .ref (h_t 0)), (2, .ref (h_m 0)), (3, .int y3)] [] := by
  intro w_t w_w w_b w_l w_H w_k0 w_k1 w_k2 w_k3 w_k4 w_k5 w_k6 w_k7 w_x w_T w_L w_P w_C w_M w_Q w_d w_F w_G w_r w_n w_m y3 hf
  unfold fL_b781 at hf
  refine r_ald_n O 782 rfl 1 rfl dL_law_781 ?_
  refine r_ald_n O 783 rfl 0 rfl dL_law_782 ?_
  refine r_ild_n O 784 rfl 3 rfl dL_law_783 ?_
  refine r_ic O 785 rfl 1 (by decide) dL_law_784 ?_
  refine r_iadd O 786 rfl dL_law_785 ?_
  obtain ⟨x786, ex786, hin786, hf⟩ := qld_some hf
  refine r_sld O S 787 rfl hin786 dL_law_786 ?_
  rw [← ex786]
  obtain ⟨x787, p787_t, p787_b, p787_T, p787_L, p787_P, hq787, hf⟩ := qb6_some hf
  refine k_VI O 790 rfl (zX9_pieceNode (l := xl X) (D := xD X) (cI := cI) (cZ := cZ) (cQ := cQ) (h_t := h_t) (h_w := h_w) (h_b := h_b) (r_l := (h_l 0)) (r_H := (h_H 0)) (r_x := (h_x 0)) (h_T := h_T) (h_L := h_L) (h_P := h_P) (r_C := (h_C 0)) (r_d := (h_d 0)) (r_F := (h_F 0)) (r_r := (h_r 0)) (r_n := (h_n 0)) hq787) (gV mlL_110 mvX9_pieceNode izX9) rfl rfl rfl hdX9_pieceNode ⟨Nat.le_of_ble_eq_true rfl, Nat.le_of_ble_eq_true rfl⟩ rfl 0 rfl rfl rfl rfl (Nat.le_of_ble_eq_true rfl) ⟨Nat.le_of_ble_eq_true rfl, Nat.le_of_ble_eq_true rfl⟩ [0, 1, 2, 14, 15, 16] rfl rfl rfl ([nX9 cI cZ cQ h_t (h_w 0) (h_b 0) (h_l 0) (h_H 0) (h_x 0) (h_T 0) (h_C 0) (h_d 0) (h_F 0) (h_r 0) (h_n 0) p787_t, nX8 cI cZ cQ h_w w_w, nX8 cI cZ cQ h_b p787_b, nX8 cI cZ cQ h_l w_l, nX2 cI cZ cQ h_H (hkf h_k0 h_k1 h_k2 h_k3 h_k4 h_k5 h_k6 h_k7) w_H, nX8 cI cZ cQ h_k0 w_k0, nX8 cI cZ cQ h_k1 w_k1, nX8 cI cZ cQ h_k2 w_k2, nX8 cI cZ cQ h_k3 w_k3, nX8 cI cZ cQ h_k4 w_k4, nX8 cI cZ cQ h_k5 w_k5, nX8 cI cZ cQ h_k6 w_k6, nX8 cI cZ cQ h_k7 w_k7, nX7 cI cZ cQ h_x w_x, nX6 cI cZ cQ h_T (h_w 0) (h_L 0) (h_P 0) p787_T, nX4 cI cZ cQ h_L (h_w 0) p787_L, nX4 cI cZ cQ h_P (h_w 0) p787_P, nX6 cI cZ cQ h_C (h_w 0) (h_M 0) (h_Q 0) w_C, nX4 cI cZ cQ h_M (h_w 0) w_M, nX4 cI cZ cQ h_Q (h_w 0) w_Q, nX0 cI cZ cQ h_d (h_w 0) (h_T 0) w_d, nX1 cI cZ cQ h_F (h_G 0) w_F, nX4 cI cZ cQ h_G (h_w 0) w_G, nX5 cI cZ cQ h_r (h_w 0) w_r, nX3 cI cZ cQ h_n (h_w 0) w_n, nX10 cI cZ cQ h_m w_m]) rfl dL_law_787 ?_
  refine r_ald_n O 791 rfl 2 rfl dL_law_790 ?_
  refine r_ald_n O 792 rfl 0 rfl dL_law_791 ?_
  refine r_ild_n O 793 rfl 3 rfl dL_law_792 ?_
  refine r_ic O 794 rfl 1 (by decide) dL_law_793 ?_
  refine r_iadd O 795 rfl dL_law_794 ?_
  obtain ⟨x795, ex795, hin795, hf⟩ := qld_some hf
  refine r_sld O S 796 rfl hin795 dL_law_795 ?_
  rw [← ex795]
  obtain ⟨x796, p796_m, hq796, hf⟩ := qb2_some hf
  refine k_VI O 799 rfl (zX10_pieceNode (l := xl X) (D := xD X) (cI := cI) (cZ := cZ) (cQ := cQ) (h_t := h_m) hq796) (gV mlL_113 mvX10_pieceNode izX10) rfl rfl rfl hdX10_pieceNode ⟨Nat.le_of_ble_eq_true rfl, Nat.le_of_ble_eq_true rfl⟩ rfl 25 rfl rfl rfl rfl (Nat.le_of_ble_eq_true rfl) ⟨Nat.le_of_ble_eq_true rfl, Nat.le_of_ble_eq_true rfl⟩ [25] rfl rfl rfl ([nX9 cI cZ cQ h_t (h_w 0) (h_b 0) (h_l 0) (h_H 0) (h_x 0) (h_T 0) (h_C 0) (h_d 0) (h_F 0) (h_r 0) (h_n 0) p787_t, nX8 cI cZ cQ h_w w_w, nX8 cI cZ cQ h_b p787_b, nX8 cI cZ cQ h_l w_l, nX2 cI cZ cQ h_H (hkf h_k0 h_k1 h_k2 h_k3 h_k4 h_k5 h_k6 h_k7) w_H, nX8 cI cZ cQ h_k0 w_k0, nX8 cI cZ cQ h_k1 w_k1, nX8 cI cZ cQ h_k2 w_k2, nX8 cI cZ cQ h_k3 w_k3, nX8 cI cZ cQ h_k4 w_k4, nX8 cI cZ cQ h_k5 w_k5, nX8 cI cZ cQ h_k6 w_k6, nX8 cI cZ cQ h_k7 w_k7, nX7 cI cZ cQ h_x w_x, nX6 cI cZ cQ h_T (h_w 0) (h_L 0) (h_P 0) p787_T, nX4 cI cZ cQ h_L (h_w 0) p787_L, nX4 cI cZ cQ h_P (h_w 0) p787_P, nX6 cI cZ cQ h_C (h_w 0) (h_M 0) (h_Q 0) w_C, nX4 cI cZ cQ h_M (h_w 0) w_M, nX4 cI cZ cQ h_Q (h_w 0) w_Q, nX0 cI cZ cQ h_d (h_w 0) (h_T 0) w_d, nX1 cI cZ cQ h_F (h_G 0) w_F, nX4 cI cZ cQ h_G (h_w 0) w_G, nX5 cI cZ cQ h_r (h_w 0) w_r, nX3 cI cZ cQ h_n (h_w 0) w_n, nX10 cI cZ cQ h_m p796_m]) rfl dL_law_796 ?_
  refine r_icmp_eq O 802 rfl 1795 dL_law_799 (by decide) (fun hc799 => ?_) (fun hc799 => ?_)
  · rw [if_pos hc799] at hf
    exact lwB1795 O S E rec18 hrec18 _ _ _ _ _ _ _ _ _ _ _ _ _ _ _ _ _ _ _ _ _ _ _ _ _ _ _ hf
  · rw [if_neg hc799] at hf
    refine r_ic O 803 rfl 0 (by decide) dL_law_802 ?_
    exact absurd (qe1 hf) (by decide)
set_option maxHeartbeats 40000000 in
set_option maxRecDepth 100000 in
theorem lwB1167 {X : Cx} {cI cZ cQ : ClassId} {bS L : Nat} {xs : Nat → Int32} (O : OK X cL_law 8 RL wB room_1 cI cZ cQ) (S : SX X bS L xs) (E : ∀ {pc : Nat} {ws : List va_W} {lv : List (Nat × Value)}, decode cL_law pc = .ok (.ireturn, 1) → BK X 8 177 15831 pc ws lv [.int 1]) {h_t h_w h_b h_l h_H h_k0 h_k1 h_k2 h_k3 h_k4 h_k5 h_k6 h_k7 h_x h_T h_L h_P h_C h_M h_Q h_d h_F h_G h_r h_n h_m : Nat → Nat} (rec18 : Pk → Pk → Pk → Pk → Pk → Pk → Pk → Pk → Pk → Pk → Pk → Pk → Pk → Pk → Pk → Pk → Pk → Pk → Pk → Pk → Pk → Pk → Pk → Pk → Pk → Pk → Int32 → Option Int32) (hrec18 : ∀ (w_t : Pk) (w_w : Pk) (w_b : Pk) (w_l : Pk) (w_H : Pk) (w_k0 : Pk) (w_k1 : Pk) (w_k2 : Pk) (w_k3 : Pk) (w_k4 : Pk) (w_k5 : Pk) (w_k6 : Pk) (w_k7 : Pk) (w_x : Pk) (w_T : Pk) (w_L : Pk) (w_P : Pk) (w_C : Pk) (w_M : Pk) (w_Q : Pk) (w_d : Pk) (w_F : Pk) (w_G : Pk) (w_r : Pk) (w_n : Pk) (w_m : Pk) (y3 : Int32), rec18 w_t w_w w_b w_l w_H w_k0 w_k1 w_k2 w_k3 w_k4 w_k5 w_k6 w_k7 w_x w_T w_L w_P w_C w_M w_Q w_d w_F w_G w_r w_n w_m y3 = some 1 → BK X 8 177 15831 18 ([nX9 cI cZ cQ h_t (h_w 0) (h_b 0) (h_l 0) (h_H 0) (h_x 0) (h_T 0) (h_C 0) (h_d 0) (h_F 0) (h_r 0) (h_n 0) w_t, nX8 cI cZ cQ h_w w_w, nX8 cI cZ cQ h_b w_b, nX8 cI cZ cQ h_l w_l, nX2 cI cZ cQ h_H (hkf h_k0 h_k1 h_k2 h_k3 h_k4 h_k5 h_k6 h_k7) w_H, nX8 cI cZ cQ h_k0 w_k0, nX8 cI cZ cQ h_k1 w_k1, nX8 cI cZ cQ h_k2 w_k2, nX8 cI cZ cQ h_k3 w_k3, nX8 cI cZ cQ h_k4 w_k4, nX8 cI cZ cQ h_k5 w_k5, nX8 cI cZ cQ h_k6 w_k6, nX8 cI cZ cQ h_k7 w_k7, nX7 cI cZ cQ h_x w_x, nX6 cI cZ cQ h_T (h_w 0) (h_L 0) (h_P 0) w_T, nX4 cI cZ cQ h_L (h_w 0) w_L, nX4 cI cZ cQ h_P (h_w 0) w_P, nX6 cI cZ cQ h_C (h_w 0) (h_M 0) (h_Q 0) w_C, nX4 cI cZ cQ h_M (h_w 0) w_M, nX4 cI cZ cQ h_Q (h_w 0) w_Q, nX0 cI cZ cQ h_d (h_w 0) (h_T 0) w_d, nX1 cI cZ cQ h_F (h_G 0) w_F, nX4 cI cZ cQ h_G (h_w 0) w_G, nX5 cI cZ cQ h_r (h_w 0) w_r, nX3 cI cZ cQ h_n (h_w 0) w_n, nX10 cI cZ cQ h_m w_m]) [(0, .ref bS), (1, .ref (h_t 0)), (2, .ref (h_m 0)), (3, .int y3)] []) : ∀ (w_t : Pk) (w_w : Pk) (w_b : Pk) (w_l : Pk) (w_H : Pk) (w_k0 : Pk) (w_k1 : Pk) (w_k2 : Pk) (w_k3 : Pk) (w_k4 : Pk) (w_k5 : Pk) (w_k6 : Pk) (w_k7 : Pk) (w_x : Pk) (w_T : Pk) (w_L : Pk) (w_P : Pk) (w_C : Pk) (w_M : Pk) (w_Q : Pk) (w_d : Pk) (w_F : Pk) (w_G : Pk) (w_r : Pk) (w_n : Pk) (w_m : Pk) (y3 : Int32), fL_b1167 L xs rec18 w_t w_w w_b w_l w_H w_k0 w_k1 w_k2 w_k3 w_k4 w_k5 w_k6 w_k7 w_x w_T w_L w_P w_C w_M w_Q w_d w_F w_G w_r w_n w_m y3 = some 1 → BK X 8 177 15831 1167 ([nX9 cI cZ cQ h_t (h_w 0) (h_b 0) (h_l 0) (h_H 0) (h_x 0) (h_T 0) (h_C 0) (h_d 0) (h_F 0) (h_r 0) (h_n 0) w_t, nX8 cI cZ cQ h_w w_w, nX8 cI cZ cQ h_b w_b, nX8 cI cZ cQ h_l w_l, nX2 cI cZ cQ h_H (hkf h_k0 h_k1 h_k2 h_k3 h_k4 h_k5 h_k6 h_k7) w_H, nX8 cI cZ cQ h_k0 w_k0, nX8 cI cZ cQ h_k1 w_k1, nX8 cI cZ cQ h_k2 w_k2, nX8 cI cZ cQ h_k3 w_k3, nX8 cI cZ cQ h_k4 w_k4, nX8 cI cZ cQ h_k5 w_k5, nX8 cI cZ cQ h_k6 w_k6, nX8 cI cZ cQ h_k7 w_k7, nX7 cI cZ cQ h_x w_x, nX6 cI cZ cQ h_T (h_w 0) (h_L 0) (h_P 0) w_T, nX4 cI cZ cQ h_L (h_w 0) w_L, nX4 cI cZ cQ h_P (h_w 0) w_P, nX6 cI cZ cQ h_C (h_w 0) (h_M 0) (h_Q 0) w_C, nX4 cI cZ cQ h_M (h_w 0) w_M, nX4 cI cZ cQ h_Q (h_w 0) w_Q, nX0 cI cZ cQ h_d (h_w 0) (h_T 0) w_d, nX1 cI cZ cQ h_F (h_G 0) w_F, nX4 cI cZ cQ h_G (h_w 0) w_G, nX5 cI cZ cQ h_r (h_w 0) w_r, nX3 cI cZ cQ h_n (h_w 0) w_n, nX10 cI cZ cQ h_m w_m]) [(0, .ref bS), (1, .ref (h_t 0)), (2, .ref (h_m 0)), (3, .int y3)] [] := by
  intro w_t w_w w_b w_l w_H w_k0 w_k1 w_k2 w_k3 w_k4 w_k5 w_k6 w_k7 w_x w_T w_L w_P w_C w_M w_Q w_d w_F w_G w_r w_n w_m y3 hf
  unfold fL_b1167 at hf
  refine r_ald_n O 1168 rfl 1 rfl dL_law_1167 ?_
  refine r_ald_n O 1169 rfl 0 rfl dL_law_1168 ?_
  refine r_ild_n O 1170 rfl 3 rfl dL_law_1169 ?_
  refine r_ic O 1171 rfl 1 (by decide) dL_law_1170 ?_
  refine r_iadd O 1172 rfl dL_law_1171 ?_
  obtain ⟨x1172, ex1172, hin1172, hf⟩ := qld_some hf
  refine r_sld O S 1173 rfl hin1172 dL_law_1172 ?_
  rw [← ex1172]
  refine r_ald_n O 1174 rfl 0 rfl dL_law_1173 ?_
  refine r_ild_n O 1175 rfl 3 rfl dL_law_1174 ?_
  refine r_ic O 1176 rfl 2 (by decide) dL_law_1175 ?_
  refine r_iadd O 1177 rfl dL_law_1176 ?_
  obtain ⟨x1177, ex1177, hin1177, hf⟩ := qld_some hf
  refine r_sld O S 1178 rfl hin1177 dL_law_1177 ?_
  rw [← ex1177]
  refine r_ald_n O 1179 rfl 0 rfl dL_law_1178 ?_
  refine r_ild_n O 1180 rfl 3 rfl dL_law_1179 ?_
  refine r_ic O 1181 rfl 3 (by decide) dL_law_1180 ?_
  refine r_iadd O 1182 rfl dL_law_1181 ?_
  obtain ⟨x1182, ex1182, hin1182, hf⟩ := qld_some hf
  refine r_sld O S 1183 rfl hin1182 dL_law_1182 ?_
  rw [← ex1182]
  refine r_ald_n O 1184 rfl 0 rfl dL_law_1183 ?_
  refine r_ild_n O 1185 rfl 3 rfl dL_law_1184 ?_
  refine r_ic O 1186 rfl 4 (by decide) dL_law_1185 ?_
  refine r_iadd O 1187 rfl dL_law_1186 ?_
  obtain ⟨x1187, ex1187, hin1187, hf⟩ := qld_some hf
  refine r_sld O S 1188 rfl hin1187 dL_law_1187 ?_
  rw [← ex1187]
  obtain ⟨x1188, p1188_r, hq1188, hf⟩ := qb2_some hf
  refine k_VI O 1191 rfl (zX9_blocker (l := xl X) (D := xD X) (cI := cI) (cZ := cZ) (cQ := cQ) (h_t := h_t) (h_w := h_w) (r_b := (h_b 0)) (r_l := (h_l 0)) (r_H := (h_H 0)) (r_x := (h_x 0)) (r_T := (h_T 0)) (r_C := (h_C 0)) (r_d := (h_d 0)) (r_F := (h_F 0)) (h_r := h_r) (r_n := (h_n 0)) hq1188) (gV mlL_154 mvX9_blocker izX9) rfl rfl rfl hdX9_blocker ⟨Nat.le_of_ble_eq_true rfl, Nat.le_of_ble_eq_true rfl⟩ rfl 0 rfl rfl rfl rfl (Nat.le_of_ble_eq_true rfl) ⟨Nat.le_of_ble_eq_true rfl, Nat.le_of_ble_eq_true rfl⟩ [0, 1, 23] rfl rfl rfl ([nX9 cI cZ cQ h_t (h_w 0) (h_b 0) (h_l 0) (h_H 0) (h_x 0) (h_T 0) (h_C 0) (h_d 0) (h_F 0) (h_r 0) (h_n 0) w_t, nX8 cI cZ cQ h_w w_w, nX8 cI cZ cQ h_b w_b, nX8 cI cZ cQ h_l w_l, nX2 cI cZ cQ h_H (hkf h_k0 h_k1 h_k2 h_k3 h_k4 h_k5 h_k6 h_k7) w_H, nX8 cI cZ cQ h_k0 w_k0, nX8 cI cZ cQ h_k1 w_k1, nX8 cI cZ cQ h_k2 w_k2, nX8 cI cZ cQ h_k3 w_k3, nX8 cI cZ cQ h_k4 w_k4, nX8 cI cZ cQ h_k5 w_k5, nX8 cI cZ cQ h_k6 w_k6, nX8 cI cZ cQ h_k7 w_k7, nX7 cI cZ cQ h_x w_x, nX6 cI cZ cQ h_T (h_w 0) (h_L 0) (h_P 0) w_T, nX4 cI cZ cQ h_L (h_w 0) w_L, nX4 cI cZ cQ h_P (h_w 0) w_P, nX6 cI cZ cQ h_C (h_w 0) (h_M 0) (h_Q 0) w_C, nX4 cI cZ cQ h_M (h_w 0) w_M, nX4 cI cZ cQ h_Q (h_w 0) w_Q, nX0 cI cZ cQ h_d (h_w 0) (h_T 0) w_d, nX1 cI cZ cQ h_F (h_G 0) w_F, nX4 cI cZ cQ h_G (h_w 0) w_G, nX5 cI cZ cQ h_r (h_w 0) p1188_r, nX3 cI cZ cQ h_n (h_w 0) w_n, nX10 cI cZ cQ h_m w_m]) rfl dL_law_1188 ?_
  refine r_ald_n O 1192 rfl 2 rfl dL_law_1191 ?_
  refine r_ald_n O 1193 rfl 0 rfl dL_law_1192 ?_
  refine r_ild_n O 1194 rfl 3 rfl dL_law_1193 ?_
  refine r_ic O 1195 rfl 1 (by decide) dL_law_1194 ?_
  refine r_iadd O 1196 rfl dL_law_1195 ?_
  obtain ⟨x1196, ex1196, hin1196, hf⟩ := qld_some hf
  refine r_sld O S 1197 rfl hin1196 dL_law_1196 ?_
  rw [← ex1196]
  refine r_ald_n O 1198 rfl 0 rfl dL_law_1197 ?_
  refine r_ild_n O 1199 rfl 3 rfl dL_law_1198 ?_
  refine r_ic O 1200 rfl 2 (by decide) dL_law_1199 ?_
  refine r_iadd O 1201 rfl dL_law_1200 ?_
  obtain ⟨x1201, ex1201, hin1201, hf⟩ := qld_some hf
  refine r_sld O S 1202 rfl hin1201 dL_law_1201 ?_
  rw [← ex1201]
  refine r_ald_n O 1203 rfl 0 rfl dL_law_1202 ?_
  refine r_ild_n O 1204 rfl 3 rfl dL_law_1203 ?_
  refine r_ic O 1205 rfl 3 (by decide) dL_law_1204 ?_
  refine r_iadd O 1206 rfl dL_law_1205 ?_
  obtain ⟨x1206, ex1206, hin1206, hf⟩ := qld_some hf
  refine r_sld O S 1207 rfl hin1206 dL_law_1206 ?_
  rw [← ex1206]
  refine r_ald_n O 1208 rfl 0 rfl dL_law_1207 ?_
  refine r_ild_n O 1209 rfl 3 rfl dL_law_1208 ?_
  refine r_ic O 1210 rfl 4 (by decide) dL_law_1209 ?_
  refine r_iadd O 1211 rfl dL_law_1210 ?_
  obtain ⟨x1211, ex1211, hin1211, hf⟩ := qld_some hf
  refine r_sld O S 1212 rfl hin1211 dL_law_1211 ?_
  rw [← ex1211]
  obtain ⟨x1212, p1212_m, hq1212, hf⟩ := qb2_some hf
  refine k_VI O 1215 rfl (zX10_blocker (l := xl X) (D := xD X) (cI := cI) (cZ := cZ) (cQ := cQ) (h_t := h_m) hq1212) (gV mlL_157 mvX10_blocker izX10) rfl rfl rfl hdX10_blocker ⟨Nat.le_of_ble_eq_true rfl, Nat.le_of_ble_eq_true rfl⟩ rfl 25 rfl rfl rfl rfl (Nat.le_of_ble_eq_true rfl) ⟨Nat.le_of_ble_eq_true rfl, Nat.le_of_ble_eq_true rfl⟩ [25] rfl rfl rfl ([nX9 cI cZ cQ h_t (h_w 0) (h_b 0) (h_l 0) (h_H 0) (h_x 0) (h_T 0) (h_C 0) (h_d 0) (h_F 0) (h_r 0) (h_n 0) w_t, nX8 cI cZ cQ h_w w_w, nX8 cI cZ cQ h_b w_b, nX8 cI cZ cQ h_l w_l, nX2 cI cZ cQ h_H (hkf h_k0 h_k1 h_k2 h_k3 h_k4 h_k5 h_k6 h_k7) w_H, nX8 cI cZ cQ h_k0 w_k0, nX8 cI cZ cQ h_k1 w_k1, nX8 cI cZ cQ h_k2 w_k2, nX8 cI cZ cQ h_k3 w_k3, nX8 cI cZ cQ h_k4 w_k4, nX8 cI cZ cQ h_k5 w_k5, nX8 cI cZ cQ h_k6 w_k6, nX8 cI cZ cQ h_k7 w_k7, nX7 cI cZ cQ h_x w_x, nX6 cI cZ cQ h_T (h_w 0) (h_L 0) (h_P 0) w_T, nX4 cI cZ cQ h_L (h_w 0) w_L, nX4 cI cZ cQ h_P (h_w 0) w_P, nX6 cI cZ cQ h_C (h_w 0) (h_M 0) (h_Q 0) w_C, nX4 cI cZ cQ h_M (h_w 0) w_M, nX4 cI cZ cQ h_Q (h_w 0) w_Q, nX0 cI cZ cQ h_d (h_w 0) (h_T 0) w_d, nX1 cI cZ cQ h_F (h_G 0) w_F, nX4 cI cZ cQ h_G (h_w 0) w_G, nX5 cI cZ cQ h_r (h_w 0) p1188_r, nX3 cI cZ cQ h_n (h_w 0) w_n, nX10 cI cZ cQ h_m p1212_m]) rfl dL_law_1212 ?_
  refine r_icmp_eq O 1218 rfl 1795 dL_law_1215 (by decide) (fun hc1215 => ?_) (fun hc1215 => ?_)
  · rw [if_pos hc1215] at hf
    exact lwB1795 O S E rec18 hrec18 _ _ _ _ _ _ _ _ _ _ _ _ _ _ _ _ _ _ _ _ _ _ _ _ _ _ _ hf
  · rw [if_neg hc1215] at hf
    refine r_ic O 1219 rfl 0 (by decide) dL_law_1218 ?_
    exact absurd (qe1 hf) (by decide)
set_option maxHeartbeats 40000000 in
set_option maxRecDepth 100000 in
theorem lwB1421 {X : Cx} {cI cZ cQ : ClassId} {bS L : Nat} {xs : Nat → Int32} (O : OK X cL_law 8 RL wB room_1 cI cZ cQ) (S : SX X bS L xs) (E : ∀ {pc : Nat} {ws : List va_W} {lv : List (Nat × Value)}, decode cL_law pc = .ok (.ireturn, 1) → BK X 8 177 15831 pc ws lv [.int 1]) {h_t h_w h_b h_l h_H h_k0 h_k1 h_k2 h_k3 h_k4 h_k5 h_k6 h_k7 h_x h_T h_L h_P h_C h_M h_Q h_d h_F h_G h_r h_n h_m : Nat → Nat} (rec18 : Pk → Pk → Pk → Pk → Pk → Pk → Pk → Pk → Pk → Pk → Pk → Pk → Pk → Pk → Pk → Pk → Pk → Pk → Pk → Pk → Pk → Pk → Pk → Pk → Pk → Pk → Int32 → Option Int32) (hrec18 : ∀ (w_t : Pk) (w_w : Pk) (w_b : Pk) (w_l : Pk) (w_H : Pk) (w_k0 : Pk) (w_k1 : Pk) (w_k2 : Pk) (w_k3 : Pk) (w_k4 : Pk) (w_k5 : Pk) (w_k6 : Pk) (w_k7 : Pk) (w_x : Pk) (w_T : Pk) (w_L : Pk) (w_P : Pk) (w_C : Pk) (w_M : Pk) (w_Q : Pk) (w_d : Pk) (w_F : Pk) (w_G : Pk) (w_r : Pk) (w_n : Pk) (w_m : Pk) (y3 : Int32), rec18 w_t w_w w_b w_l w_H w_k0 w_k1 w_k2 w_k3 w_k4 w_k5 w_k6 w_k7 w_x w_T w_L w_P w_C w_M w_Q w_d w_F w_G w_r w_n w_m y3 = some 1 → BK X 8 177 15831 18 ([nX9 cI cZ cQ h_t (h_w 0) (h_b 0) (h_l 0) (h_H 0) (h_x 0) (h_T 0) (h_C 0) (h_d 0) (h_F 0) (h_r 0) (h_n 0) w_t, nX8 cI cZ cQ h_w w_w, nX8 cI cZ cQ h_b w_b, nX8 cI cZ cQ h_l w_l, nX2 cI cZ cQ h_H (hkf h_k0 h_k1 h_k2 h_k3 h_k4 h_k5 h_k6 h_k7) w_H, nX8 cI cZ cQ h_k0 w_k0, nX8 cI cZ cQ h_k1 w_k1, nX8 cI cZ cQ h_k2 w_k2, nX8 cI cZ cQ h_k3 w_k3, nX8 cI cZ cQ h_k4 w_k4, nX8 cI cZ cQ h_k5 w_k5, nX8 cI cZ cQ h_k6 w_k6, nX8 cI cZ cQ h_k7 w_k7, nX7 cI cZ cQ h_x w_x, nX6 cI cZ cQ h_T (h_w 0) (h_L 0) (h_P 0) w_T, nX4 cI cZ cQ h_L (h_w 0) w_L, nX4 cI cZ cQ h_P (h_w 0) w_P, nX6 cI cZ cQ h_C (h_w 0) (h_M 0) (h_Q 0) w_C, nX4 cI cZ cQ h_M (h_w 0) w_M, nX4 cI cZ cQ h_Q (h_w 0) w_Q, nX0 cI cZ cQ h_d (h_w 0) (h_T 0) w_d, nX1 cI cZ cQ h_F (h_G 0) w_F, nX4 cI cZ cQ h_G (h_w 0) w_G, nX5 cI cZ cQ h_r (h_w 0) w_r, nX3 cI cZ cQ h_n (h_w 0) w_n, nX10 cI cZ cQ h_m w_m]) [(0, .ref bS), (1, .ref (h_t 0)), (2, .ref (h_m 0)), (3, .int y3)] []) : ∀ (w_t : Pk) (w_w : Pk) (w_b : Pk) (w_l : Pk) (w_H : Pk) (w_k0 : Pk) (w_k1 : Pk) (w_k2 : Pk) (w_k3 : Pk) (w_k4 : Pk) (w_k5 : Pk) (w_k6 : Pk) (w_k7 : Pk) (w_x : Pk) (w_T : Pk) (w_L : Pk) (w_P : Pk) (w_C : Pk) (w_M : Pk) (w_Q : Pk) (w_d : Pk) (w_F : Pk) (w_G : Pk) (w_r : Pk) (w_n : Pk) (w_m : Pk) (y3 : Int32), fL_b1421 L xs rec18 w_t w_w w_b w_l w_H w_k0 w_k1 w_k2 w_k3 w_k4 w_k5 w_k6 w_k7 w_x w_T w_L w_P w_C w_M w_Q w_d w_F w_G w_r w_n w_m y3 = some 1 → BK X 8 177 15831 1421 ([nX9 cI cZ cQ h_t (h_w 0) (h_b 0) (h_l 0) (h_H 0) (h_x 0) (h_T 0) (h_C 0) (h_d 0) (h_F 0) (h_r 0) (h_n 0) w_t, nX8 cI cZ cQ h_w w_w, nX8 cI cZ cQ h_b w_b, nX8 cI cZ cQ h_l w_l, nX2 cI cZ cQ h_H (hkf h_k0 h_k1 h_k2 h_k3 h_k4 h_k5 h_k6 h_k7) w_H, nX8 cI cZ cQ h_k0 w_k0, nX8 cI cZ cQ h_k1 w_k1, nX8 cI cZ cQ h_k2 w_k2, nX8 cI cZ cQ h_k3 w_k3, nX8 cI cZ cQ h_k4 w_k4, nX8 cI cZ cQ h_k5 w_k5, nX8 cI cZ cQ h_k6 w_k6, nX8 cI cZ cQ h_k7 w_k7, nX7 cI cZ cQ h_x w_x, nX6 cI cZ cQ h_T (h_w 0) (h_L 0) (h_P 0) w_T, nX4 cI cZ cQ h_L (h_w 0) w_L, nX4 cI cZ cQ h_P (h_w 0) w_P, nX6 cI cZ cQ h_C (h_w 0) (h_M 0) (h_Q 0) w_C, nX4 cI cZ cQ h_M (h_w 0) w_M, nX4 cI cZ cQ h_Q (h_w 0) w_Q, nX0 cI cZ cQ h_d (h_w 0) (h_T 0) w_d, nX1 cI cZ cQ h_F (h_G 0) w_F, nX4 cI cZ cQ h_G (h_w 0) w_G, nX5 cI cZ cQ h_r (h_w 0) w_r, nX3 cI cZ cQ h_n (h_w 0) w_n, nX10 cI cZ cQ h_m w_m]) [(0, .ref bS), (1, .ref (h_t 0)), (2, .ref (h_m 0)), (3, .int y3)] [] := by
  intro w_t w_w w_b w_l w_H w_k0 w_k1 w_k2 w_k3 w_k4 w_k5 w_k6 w_k7 w_x w_T w_L w_P w_C w_M w_Q w_d w_F w_G w_r w_n w_m y3 hf
  unfold fL_b1421 at hf
  refine r_ald_n O 1422 rfl 1 rfl dL_law_1421 ?_
  refine r_ald_n O 1423 rfl 0 rfl dL_law_1422 ?_
  refine r_ild_n O 1424 rfl 3 rfl dL_law_1423 ?_
  refine r_ic O 1425 rfl 1 (by decide) dL_law_1424 ?_
  refine r_iadd O 1426 rfl dL_law_1425 ?_
  obtain ⟨x1426, ex1426, hin1426, hf⟩ := qld_some hf
  refine r_sld O S 1427 rfl hin1426 dL_law_1426 ?_
  rw [← ex1426]
  refine r_ald_n O 1428 rfl 0 rfl dL_law_1427 ?_
  refine r_ild_n O 1429 rfl 3 rfl dL_law_1428 ?_
  refine r_ic O 1430 rfl 2 (by decide) dL_law_1429 ?_
  refine r_iadd O 1431 rfl dL_law_1430 ?_
  obtain ⟨x1431, ex1431, hin1431, hf⟩ := qld_some hf
  refine r_sld O S 1432 rfl hin1431 dL_law_1431 ?_
  rw [← ex1431]
  refine r_ald_n O 1433 rfl 0 rfl dL_law_1432 ?_
  refine r_ild_n O 1434 rfl 3 rfl dL_law_1433 ?_
  refine r_ic O 1435 rfl 3 (by decide) dL_law_1434 ?_
  refine r_iadd O 1436 rfl dL_law_1435 ?_
  obtain ⟨x1436, ex1436, hin1436, hf⟩ := qld_some hf
  refine r_sld O S 1437 rfl hin1436 dL_law_1436 ?_
  rw [← ex1436]
  refine r_ald_n O 1438 rfl 0 rfl dL_law_1437 ?_
  refine r_ild_n O 1439 rfl 3 rfl dL_law_1438 ?_
  refine r_ic O 1440 rfl 4 (by decide) dL_law_1439 ?_
  refine r_iadd O 1441 rfl dL_law_1440 ?_
  obtain ⟨x1441, ex1441, hin1441, hf⟩ := qld_some hf
  refine r_sld O S 1442 rfl hin1441 dL_law_1441 ?_
  rw [← ex1441]
  refine r_ald_n O 1443 rfl 0 rfl dL_law_1442 ?_
  refine r_ild_n O 1444 rfl 3 rfl dL_law_1443 ?_
  refine r_ic O 1445 rfl 5 (by decide) dL_law_1444 ?_
  refine r_iadd O 1446 rfl dL_law_1445 ?_
  obtain ⟨x1446, ex1446, hin1446, hf⟩ := qld_some hf
  refine r_sld O S 1447 rfl hin1446 dL_law_1446 ?_
  rw [← ex1446]
  obtain ⟨x1447, p1447_r, hq1447, hf⟩ := qb2_some hf
  refine k_VI O 1450 rfl (zX9_seenColumns (l := xl X) (D := xD X) (cI := cI) (cZ := cZ) (cQ := cQ) (h_t := h_t) (h_w := h_w) (r_b := (h_b 0)) (r_l := (h_l 0)) (r_H := (h_H 0)) (r_x := (h_x 0)) (r_T := (h_T 0)) (r_C := (h_C 0)) (r_d := (h_d 0)) (r_F := (h_F 0)) (h_r := h_r) (r_n := (h_n 0)) hq1447) (gV mlL_170 mvX9_seenColumns izX9) rfl rfl rfl hdX9_seenColumns ⟨Nat.le_of_ble_eq_true rfl, Nat.le_of_ble_eq_true rfl⟩ rfl 0 rfl rfl rfl rfl (Nat.le_of_ble_eq_true rfl) ⟨Nat.le_of_ble_eq_true rfl, Nat.le_of_ble_eq_true rfl⟩ [0, 1, 23] rfl rfl rfl ([nX9 cI cZ cQ h_t (h_w 0) (h_b 0) (h_l 0) (h_H 0) (h_x 0) (h_T 0) (h_C 0) (h_d 0) (h_F 0) (h_r 0) (h_n 0) w_t, nX8 cI cZ cQ h_w w_w, nX8 cI cZ cQ h_b w_b, nX8 cI cZ cQ h_l w_l, nX2 cI cZ cQ h_H (hkf h_k0 h_k1 h_k2 h_k3 h_k4 h_k5 h_k6 h_k7) w_H, nX8 cI cZ cQ h_k0 w_k0, nX8 cI cZ cQ h_k1 w_k1, nX8 cI cZ cQ h_k2 w_k2, nX8 cI cZ cQ h_k3 w_k3, nX8 cI cZ cQ h_k4 w_k4, nX8 cI cZ cQ h_k5 w_k5, nX8 cI cZ cQ h_k6 w_k6, nX8 cI cZ cQ h_k7 w_k7, nX7 cI cZ cQ h_x w_x, nX6 cI cZ cQ h_T (h_w 0) (h_L 0) (h_P 0) w_T, nX4 cI cZ cQ h_L (h_w 0) w_L, nX4 cI cZ cQ h_P (h_w 0) w_P, nX6 cI cZ cQ h_C (h_w 0) (h_M 0) (h_Q 0) w_C, nX4 cI cZ cQ h_M (h_w 0) w_M, nX4 cI cZ cQ h_Q (h_w 0) w_Q, nX0 cI cZ cQ h_d (h_w 0) (h_T 0) w_d, nX1 cI cZ cQ h_F (h_G 0) w_F, nX4 cI cZ cQ h_G (h_w 0) w_G, nX5 cI cZ cQ h_r (h_w 0) p1447_r, nX3 cI cZ cQ h_n (h_w 0) w_n, nX10 cI cZ cQ h_m w_m]) rfl dL_law_1447 ?_
  refine r_ald_n O 1451 rfl 2 rfl dL_law_1450 ?_
  refine r_ald_n O 1452 rfl 0 rfl dL_law_1451 ?_
  refine r_ild_n O 1453 rfl 3 rfl dL_law_1452 ?_
  refine r_ic O 1454 rfl 1 (by decide) dL_law_1453 ?_
  refine r_iadd O 1455 rfl dL_law_1454 ?_
  obtain ⟨x1455, ex1455, hin1455, hf⟩ := qld_some hf
  refine r_sld O S 1456 rfl hin1455 dL_law_1455 ?_
  rw [← ex1455]
  refine r_ald_n O 1457 rfl 0 rfl dL_law_1456 ?_
  refine r_ild_n O 1458 rfl 3 rfl dL_law_1457 ?_
  refine r_ic O 1459 rfl 2 (by decide) dL_law_1458 ?_
  refine r_iadd O 1460 rfl dL_law_1459 ?_
  obtain ⟨x1460, ex1460, hin1460, hf⟩ := qld_some hf
  refine r_sld O S 1461 rfl hin1460 dL_law_1460 ?_
  rw [← ex1460]
  refine r_ald_n O 1462 rfl 0 rfl dL_law_1461 ?_
  refine r_ild_n O 1463 rfl 3 rfl dL_law_1462 ?_
  refine r_ic O 1464 rfl 3 (by decide) dL_law_1463 ?_
  refine r_iadd O 1465 rfl dL_law_1464 ?_
  obtain ⟨x1465, ex1465, hin1465, hf⟩ := qld_some hf
  refine r_sld O S 1466 rfl hin1465 dL_law_1465 ?_
  rw [← ex1465]
  refine r_ald_n O 1467 rfl 0 rfl dL_law_1466 ?_
  refine r_ild_n O 1468 rfl 3 rfl dL_law_1467 ?_
  refine r_ic O 1469 rfl 4 (by decide) dL_law_1468 ?_
  refine r_iadd O 1470 rfl dL_law_1469 ?_
  obtain ⟨x1470, ex1470, hin1470, hf⟩ := qld_some hf
  refine r_sld O S 1471 rfl hin1470 dL_law_1470 ?_
  rw [← ex1470]
  refine r_ald_n O 1472 rfl 0 rfl dL_law_1471 ?_
  refine r_ild_n O 1473 rfl 3 rfl dL_law_1472 ?_
  refine r_ic O 1474 rfl 5 (by decide) dL_law_1473 ?_
  refine r_iadd O 1475 rfl dL_law_1474 ?_
  obtain ⟨x1475, ex1475, hin1475, hf⟩ := qld_some hf
  refine r_sld O S 1476 rfl hin1475 dL_law_1475 ?_
  rw [← ex1475]
  obtain ⟨x1476, p1476_m, hq1476, hf⟩ := qb2_some hf
  refine k_VI O 1479 rfl (zX10_seenColumns (l := xl X) (D := xD X) (cI := cI) (cZ := cZ) (cQ := cQ) (h_t := h_m) hq1476) (gV mlL_173 mvX10_seenColumns izX10) rfl rfl rfl hdX10_seenColumns ⟨Nat.le_of_ble_eq_true rfl, Nat.le_of_ble_eq_true rfl⟩ rfl 25 rfl rfl rfl rfl (Nat.le_of_ble_eq_true rfl) ⟨Nat.le_of_ble_eq_true rfl, Nat.le_of_ble_eq_true rfl⟩ [25] rfl rfl rfl ([nX9 cI cZ cQ h_t (h_w 0) (h_b 0) (h_l 0) (h_H 0) (h_x 0) (h_T 0) (h_C 0) (h_d 0) (h_F 0) (h_r 0) (h_n 0) w_t, nX8 cI cZ cQ h_w w_w, nX8 cI cZ cQ h_b w_b, nX8 cI cZ cQ h_l w_l, nX2 cI cZ cQ h_H (hkf h_k0 h_k1 h_k2 h_k3 h_k4 h_k5 h_k6 h_k7) w_H, nX8 cI cZ cQ h_k0 w_k0, nX8 cI cZ cQ h_k1 w_k1, nX8 cI cZ cQ h_k2 w_k2, nX8 cI cZ cQ h_k3 w_k3, nX8 cI cZ cQ h_k4 w_k4, nX8 cI cZ cQ h_k5 w_k5, nX8 cI cZ cQ h_k6 w_k6, nX8 cI cZ cQ h_k7 w_k7, nX7 cI cZ cQ h_x w_x, nX6 cI cZ cQ h_T (h_w 0) (h_L 0) (h_P 0) w_T, nX4 cI cZ cQ h_L (h_w 0) w_L, nX4 cI cZ cQ h_P (h_w 0) w_P, nX6 cI cZ cQ h_C (h_w 0) (h_M 0) (h_Q 0) w_C, nX4 cI cZ cQ h_M (h_w 0) w_M, nX4 cI cZ cQ h_Q (h_w 0) w_Q, nX0 cI cZ cQ h_d (h_w 0) (h_T 0) w_d, nX1 cI cZ cQ h_F (h_G 0) w_F, nX4 cI cZ cQ h_G (h_w 0) w_G, nX5 cI cZ cQ h_r (h_w 0) p1447_r, nX3 cI cZ cQ h_n (h_w 0) w_n, nX10 cI cZ cQ h_m p1476_m]) rfl dL_law_1476 ?_
  refine r_icmp_eq O 1482 rfl 1795 dL_law_1479 (by decide) (fun hc1479 => ?_) (fun hc1479 => ?_)
  · rw [if_pos hc1479] at hf
    exact lwB1795 O S E rec18 hrec18 _ _ _ _ _ _ _ _ _ _ _ _ _ _ _ _ _ _ _ _ _ _ _ _ _ _ _ hf
  · rw [if_neg hc1479] at hf
    refine r_ic O 1483 rfl 0 (by decide) dL_law_1482 ?_
    exact absurd (qe1 hf) (by decide)
set_option maxHeartbeats 40000000 in
set_option maxRecDepth 100000 in
theorem lwB529 {X : Cx} {cI cZ cQ : ClassId} {bS L : Nat} {xs : Nat → Int32} (O : OK X cL_law 8 RL wB room_1 cI cZ cQ) (S : SX X bS L xs) (E : ∀ {pc : Nat} {ws : List va_W} {lv : List (Nat × Value)}, decode cL_law pc = .ok (.ireturn, 1) → BK X 8 177 15831 pc ws lv [.int 1]) {h_t h_w h_b h_l h_H h_k0 h_k1 h_k2 h_k3 h_k4 h_k5 h_k6 h_k7 h_x h_T h_L h_P h_C h_M h_Q h_d h_F h_G h_r h_n h_m : Nat → Nat} (rec18 : Pk → Pk → Pk → Pk → Pk → Pk → Pk → Pk → Pk → Pk → Pk → Pk → Pk → Pk → Pk → Pk → Pk → Pk → Pk → Pk → Pk → Pk → Pk → Pk → Pk → Pk → Int32 → Option Int32) (hrec18 : ∀ (w_t : Pk) (w_w : Pk) (w_b : Pk) (w_l : Pk) (w_H : Pk) (w_k0 : Pk) (w_k1 : Pk) (w_k2 : Pk) (w_k3 : Pk) (w_k4 : Pk) (w_k5 : Pk) (w_k6 : Pk) (w_k7 : Pk) (w_x : Pk) (w_T : Pk) (w_L : Pk) (w_P : Pk) (w_C : Pk) (w_M : Pk) (w_Q : Pk) (w_d : Pk) (w_F : Pk) (w_G : Pk) (w_r : Pk) (w_n : Pk) (w_m : Pk) (y3 : Int32), rec18 w_t w_w w_b w_l w_H w_k0 w_k1 w_k2 w_k3 w_k4 w_k5 w_k6 w_k7 w_x w_T w_L w_P w_C w_M w_Q w_d w_F w_G w_r w_n w_m y3 = some 1 → BK X 8 177 15831 18 ([nX9 cI cZ cQ h_t (h_w 0) (h_b 0) (h_l 0) (h_H 0) (h_x 0) (h_T 0) (h_C 0) (h_d 0) (h_F 0) (h_r 0) (h_n 0) w_t, nX8 cI cZ cQ h_w w_w, nX8 cI cZ cQ h_b w_b, nX8 cI cZ cQ h_l w_l, nX2 cI cZ cQ h_H (hkf h_k0 h_k1 h_k2 h_k3 h_k4 h_k5 h_k6 h_k7) w_H, nX8 cI cZ cQ h_k0 w_k0, nX8 cI cZ cQ h_k1 w_k1, nX8 cI cZ cQ h_k2 w_k2, nX8 cI cZ cQ h_k3 w_k3, nX8 cI cZ cQ h_k4 w_k4, nX8 cI cZ cQ h_k5 w_k5, nX8 cI cZ cQ h_k6 w_k6, nX8 cI cZ cQ h_k7 w_k7, nX7 cI cZ cQ h_x w_x, nX6 cI cZ cQ h_T (h_w 0) (h_L 0) (h_P 0) w_T, nX4 cI cZ cQ h_L (h_w 0) w_L, nX4 cI cZ cQ h_P (h_w 0) w_P, nX6 cI cZ cQ h_C (h_w 0) (h_M 0) (h_Q 0) w_C, nX4 cI cZ cQ h_M (h_w 0) w_M, nX4 cI cZ cQ h_Q (h_w 0) w_Q, nX0 cI cZ cQ h_d (h_w 0) (h_T 0) w_d, nX1 cI cZ cQ h_F (h_G 0) w_F, nX4 cI cZ cQ h_G (h_w 0) w_G, nX5 cI cZ cQ h_r (h_w 0) w_r, nX3 cI cZ cQ h_n (h_w 0) w_n, nX10 cI cZ cQ h_m w_m]) [(0, .ref bS), (1, .ref (h_t 0)), (2, .ref (h_m 0)), (3, .int y3)] []) : ∀ (w_t : Pk) (w_w : Pk) (w_b : Pk) (w_l : Pk) (w_H : Pk) (w_k0 : Pk) (w_k1 : Pk) (w_k2 : Pk) (w_k3 : Pk) (w_k4 : Pk) (w_k5 : Pk) (w_k6 : Pk) (w_k7 : Pk) (w_x : Pk) (w_T : Pk) (w_L : Pk) (w_P : Pk) (w_C : Pk) (w_M : Pk) (w_Q : Pk) (w_d : Pk) (w_F : Pk) (w_G : Pk) (w_r : Pk) (w_n : Pk) (w_m : Pk) (y3 : Int32), fL_b529 L xs rec18 w_t w_w w_b w_l w_H w_k0 w_k1 w_k2 w_k3 w_k4 w_k5 w_k6 w_k7 w_x w_T w_L w_P w_C w_M w_Q w_d w_F w_G w_r w_n w_m y3 = some 1 → BK X 8 177 15831 529 ([nX9 cI cZ cQ h_t (h_w 0) (h_b 0) (h_l 0) (h_H 0) (h_x 0) (h_T 0) (h_C 0) (h_d 0) (h_F 0) (h_r 0) (h_n 0) w_t, nX8 cI cZ cQ h_w w_w, nX8 cI cZ cQ h_b w_b, nX8 cI cZ cQ h_l w_l, nX2 cI cZ cQ h_H (hkf h_k0 h_k1 h_k2 h_k3 h_k4 h_k5 h_k6 h_k7) w_H, nX8 cI cZ cQ h_k0 w_k0, nX8 cI cZ cQ h_k1 w_k1, nX8 cI cZ cQ h_k2 w_k2, nX8 cI cZ cQ h_k3 w_k3, nX8 cI cZ cQ h_k4 w_k4, nX8 cI cZ cQ h_k5 w_k5, nX8 cI cZ cQ h_k6 w_k6, nX8 cI cZ cQ h_k7 w_k7, nX7 cI cZ cQ h_x w_x, nX6 cI cZ cQ h_T (h_w 0) (h_L 0) (h_P 0) w_T, nX4 cI cZ cQ h_L (h_w 0) w_L, nX4 cI cZ cQ h_P (h_w 0) w_P, nX6 cI cZ cQ h_C (h_w 0) (h_M 0) (h_Q 0) w_C, nX4 cI cZ cQ h_M (h_w 0) w_M, nX4 cI cZ cQ h_Q (h_w 0) w_Q, nX0 cI cZ cQ h_d (h_w 0) (h_T 0) w_d, nX1 cI cZ cQ h_F (h_G 0) w_F, nX4 cI cZ cQ h_G (h_w 0) w_G, nX5 cI cZ cQ h_r (h_w 0) w_r, nX3 cI cZ cQ h_n (h_w 0) w_n, nX10 cI cZ cQ h_m w_m]) [(0, .ref bS), (1, .ref (h_t 0)), (2, .ref (h_m 0)), (3, .int y3)] [] := by
  intro w_t w_w w_b w_l w_H w_k0 w_k1 w_k2 w_k3 w_k4 w_k5 w_k6 w_k7 w_x w_T w_L w_P w_C w_M w_Q w_d w_F w_G w_r w_n w_m y3 hf
  unfold fL_b529 at hf
  refine r_ald_n O 530 rfl 1 rfl dL_law_529 ?_
  refine r_ald_n O 531 rfl 0 rfl dL_law_530 ?_
  refine r_ild_n O 532 rfl 3 rfl dL_law_531 ?_
  refine r_ic O 533 rfl 1 (by decide) dL_law_532 ?_
  refine r_iadd O 534 rfl dL_law_533 ?_
  obtain ⟨x534, ex534, hin534, hf⟩ := qld_some hf
  refine r_sld O S 535 rfl hin534 dL_law_534 ?_
  rw [← ex534]
  obtain ⟨x535, hq535, hf⟩ := qb1_some hf
  refine k_VI O 538 rfl (zX9_kind (l := xl X) (D := xD X) (cI := cI) (cZ := cZ) (cQ := cQ) (h_t := h_t) (h_w := h_w) (r_b := (h_b 0)) (r_l := (h_l 0)) (r_H := (h_H 0)) (r_x := (h_x 0)) (r_T := (h_T 0)) (r_C := (h_C 0)) (r_d := (h_d 0)) (r_F := (h_F 0)) (r_r := (h_r 0)) (r_n := (h_n 0)) hq535) (gV mlL_54 mvX9_kind izX9) rfl rfl rfl hdX9_kind ⟨Nat.le_of_ble_eq_true rfl, Nat.le_of_ble_eq_true rfl⟩ rfl 0 rfl rfl rfl rfl (Nat.le_of_ble_eq_true rfl) ⟨Nat.le_of_ble_eq_true rfl, Nat.le_of_ble_eq_true rfl⟩ [0, 1] rfl rfl rfl ([nX9 cI cZ cQ h_t (h_w 0) (h_b 0) (h_l 0) (h_H 0) (h_x 0) (h_T 0) (h_C 0) (h_d 0) (h_F 0) (h_r 0) (h_n 0) w_t, nX8 cI cZ cQ h_w w_w, nX8 cI cZ cQ h_b w_b, nX8 cI cZ cQ h_l w_l, nX2 cI cZ cQ h_H (hkf h_k0 h_k1 h_k2 h_k3 h_k4 h_k5 h_k6 h_k7) w_H, nX8 cI cZ cQ h_k0 w_k0, nX8 cI cZ cQ h_k1 w_k1, nX8 cI cZ cQ h_k2 w_k2, nX8 cI cZ cQ h_k3 w_k3, nX8 cI cZ cQ h_k4 w_k4, nX8 cI cZ cQ h_k5 w_k5, nX8 cI cZ cQ h_k6 w_k6, nX8 cI cZ cQ h_k7 w_k7, nX7 cI cZ cQ h_x w_x, nX6 cI cZ cQ h_T (h_w 0) (h_L 0) (h_P 0) w_T, nX4 cI cZ cQ h_L (h_w 0) w_L, nX4 cI cZ cQ h_P (h_w 0) w_P, nX6 cI cZ cQ h_C (h_w 0) (h_M 0) (h_Q 0) w_C, nX4 cI cZ cQ h_M (h_w 0) w_M, nX4 cI cZ cQ h_Q (h_w 0) w_Q, nX0 cI cZ cQ h_d (h_w 0) (h_T 0) w_d, nX1 cI cZ cQ h_F (h_G 0) w_F, nX4 cI cZ cQ h_G (h_w 0) w_G, nX5 cI cZ cQ h_r (h_w 0) w_r, nX3 cI cZ cQ h_n (h_w 0) w_n, nX10 cI cZ cQ h_m w_m]) rfl dL_law_535 ?_
  refine r_ald_n O 539 rfl 2 rfl dL_law_538 ?_
  refine r_ald_n O 540 rfl 0 rfl dL_law_539 ?_
  refine r_ild_n O 541 rfl 3 rfl dL_law_540 ?_
  refine r_ic O 542 rfl 1 (by decide) dL_law_541 ?_
  refine r_iadd O 543 rfl dL_law_542 ?_
  obtain ⟨x543, ex543, hin543, hf⟩ := qld_some hf
  refine r_sld O S 544 rfl hin543 dL_law_543 ?_
  rw [← ex543]
  obtain ⟨x544, hq544, hf⟩ := qb1_some hf
  refine k_VI O 547 rfl (zX10_kind (l := xl X) (D := xD X) (cI := cI) (cZ := cZ) (cQ := cQ) (h_t := h_m) hq544) (gV mlL_57 mvX10_kind izX10) rfl rfl rfl hdX10_kind ⟨Nat.le_of_ble_eq_true rfl, Nat.le_of_ble_eq_true rfl⟩ rfl 25 rfl rfl rfl rfl (Nat.le_of_ble_eq_true rfl) ⟨Nat.le_of_ble_eq_true rfl, Nat.le_of_ble_eq_true rfl⟩ [25] rfl rfl rfl ([nX9 cI cZ cQ h_t (h_w 0) (h_b 0) (h_l 0) (h_H 0) (h_x 0) (h_T 0) (h_C 0) (h_d 0) (h_F 0) (h_r 0) (h_n 0) w_t, nX8 cI cZ cQ h_w w_w, nX8 cI cZ cQ h_b w_b, nX8 cI cZ cQ h_l w_l, nX2 cI cZ cQ h_H (hkf h_k0 h_k1 h_k2 h_k3 h_k4 h_k5 h_k6 h_k7) w_H, nX8 cI cZ cQ h_k0 w_k0, nX8 cI cZ cQ h_k1 w_k1, nX8 cI cZ cQ h_k2 w_k2, nX8 cI cZ cQ h_k3 w_k3, nX8 cI cZ cQ h_k4 w_k4, nX8 cI cZ cQ h_k5 w_k5, nX8 cI cZ cQ h_k6 w_k6, nX8 cI cZ cQ h_k7 w_k7, nX7 cI cZ cQ h_x w_x, nX6 cI cZ cQ h_T (h_w 0) (h_L 0) (h_P 0) w_T, nX4 cI cZ cQ h_L (h_w 0) w_L, nX4 cI cZ cQ h_P (h_w 0) w_P, nX6 cI cZ cQ h_C (h_w 0) (h_M 0) (h_Q 0) w_C, nX4 cI cZ cQ h_M (h_w 0) w_M, nX4 cI cZ cQ h_Q (h_w 0) w_Q, nX0 cI cZ cQ h_d (h_w 0) (h_T 0) w_d, nX1 cI cZ cQ h_F (h_G 0) w_F, nX4 cI cZ cQ h_G (h_w 0) w_G, nX5 cI cZ cQ h_r (h_w 0) w_r, nX3 cI cZ cQ h_n (h_w 0) w_n, nX10 cI cZ cQ h_m w_m]) rfl dL_law_544 ?_
  refine r_icmp_eq O 550 rfl 1795 dL_law_547 (by decide) (fun hc547 => ?_) (fun hc547 => ?_)
  · rw [if_pos hc547] at hf
    exact lwB1795 O S E rec18 hrec18 _ _ _ _ _ _ _ _ _ _ _ _ _ _ _ _ _ _ _ _ _ _ _ _ _ _ _ hf
  · rw [if_neg hc547] at hf
    refine r_ic O 551 rfl 0 (by decide) dL_law_550 ?_
    exact absurd (qe1 hf) (by decide)
set_option maxHeartbeats 40000000 in
set_option maxRecDepth 100000 in
theorem lwB1679 {X : Cx} {cI cZ cQ : ClassId} {bS L : Nat} {xs : Nat → Int32} (O : OK X cL_law 8 RL wB room_1 cI cZ cQ) (S : SX X bS L xs) (E : ∀ {pc : Nat} {ws : List va_W} {lv : List (Nat × Value)}, decode cL_law pc = .ok (.ireturn, 1) → BK X 8 177 15831 pc ws lv [.int 1]) {h_t h_w h_b h_l h_H h_k0 h_k1 h_k2 h_k3 h_k4 h_k5 h_k6 h_k7 h_x h_T h_L h_P h_C h_M h_Q h_d h_F h_G h_r h_n h_m : Nat → Nat} (rec18 : Pk → Pk → Pk → Pk → Pk → Pk → Pk → Pk → Pk → Pk → Pk → Pk → Pk → Pk → Pk → Pk → Pk → Pk → Pk → Pk → Pk → Pk → Pk → Pk → Pk → Pk → Int32 → Option Int32) (hrec18 : ∀ (w_t : Pk) (w_w : Pk) (w_b : Pk) (w_l : Pk) (w_H : Pk) (w_k0 : Pk) (w_k1 : Pk) (w_k2 : Pk) (w_k3 : Pk) (w_k4 : Pk) (w_k5 : Pk) (w_k6 : Pk) (w_k7 : Pk) (w_x : Pk) (w_T : Pk) (w_L : Pk) (w_P : Pk) (w_C : Pk) (w_M : Pk) (w_Q : Pk) (w_d : Pk) (w_F : Pk) (w_G : Pk) (w_r : Pk) (w_n : Pk) (w_m : Pk) (y3 : Int32), rec18 w_t w_w w_b w_l w_H w_k0 w_k1 w_k2 w_k3 w_k4 w_k5 w_k6 w_k7 w_x w_T w_L w_P w_C w_M w_Q w_d w_F w_G w_r w_n w_m y3 = some 1 → BK X 8 177 15831 18 ([nX9 cI cZ cQ h_t (h_w 0) (h_b 0) (h_l 0) (h_H 0) (h_x 0) (h_T 0) (h_C 0) (h_d 0) (h_F 0) (h_r 0) (h_n 0) w_t, nX8 cI cZ cQ h_w w_w, nX8 cI cZ cQ h_b w_b, nX8 cI cZ cQ h_l w_l, nX2 cI cZ cQ h_H (hkf h_k0 h_k1 h_k2 h_k3 h_k4 h_k5 h_k6 h_k7) w_H, nX8 cI cZ cQ h_k0 w_k0, nX8 cI cZ cQ h_k1 w_k1, nX8 cI cZ cQ h_k2 w_k2, nX8 cI cZ cQ h_k3 w_k3, nX8 cI cZ cQ h_k4 w_k4, nX8 cI cZ cQ h_k5 w_k5, nX8 cI cZ cQ h_k6 w_k6, nX8 cI cZ cQ h_k7 w_k7, nX7 cI cZ cQ h_x w_x, nX6 cI cZ cQ h_T (h_w 0) (h_L 0) (h_P 0) w_T, nX4 cI cZ cQ h_L (h_w 0) w_L, nX4 cI cZ cQ h_P (h_w 0) w_P, nX6 cI cZ cQ h_C (h_w 0) (h_M 0) (h_Q 0) w_C, nX4 cI cZ cQ h_M (h_w 0) w_M, nX4 cI cZ cQ h_Q (h_w 0) w_Q, nX0 cI cZ cQ h_d (h_w 0) (h_T 0) w_d, nX1 cI cZ cQ h_F (h_G 0) w_F, nX4 cI cZ cQ h_G (h_w 0) w_G, nX5 cI cZ cQ h_r (h_w 0) w_r, nX3 cI cZ cQ h_n (h_w 0) w_n, nX10 cI cZ cQ h_m w_m]) [(0, .ref bS), (1, .ref (h_t 0)), (2, .ref (h_m 0)), (3, .int y3)] []) : ∀ (w_t : Pk) (w_w : Pk) (w_b : Pk) (w_l : Pk) (w_H : Pk) (w_k0 : Pk) (w_k1 : Pk) (w_k2 : Pk) (w_k3 : Pk) (w_k4 : Pk) (w_k5 : Pk) (w_k6 : Pk) (w_k7 : Pk) (w_x : Pk) (w_T : Pk) (w_L : Pk) (w_P : Pk) (w_C : Pk) (w_M : Pk) (w_Q : Pk) (w_d : Pk) (w_F : Pk) (w_G : Pk) (w_r : Pk) (w_n : Pk) (w_m : Pk) (y3 : Int32), fL_b1679 L xs rec18 w_t w_w w_b w_l w_H w_k0 w_k1 w_k2 w_k3 w_k4 w_k5 w_k6 w_k7 w_x w_T w_L w_P w_C w_M w_Q w_d w_F w_G w_r w_n w_m y3 = some 1 → BK X 8 177 15831 1679 ([nX9 cI cZ cQ h_t (h_w 0) (h_b 0) (h_l 0) (h_H 0) (h_x 0) (h_T 0) (h_C 0) (h_d 0) (h_F 0) (h_r 0) (h_n 0) w_t, nX8 cI cZ cQ h_w w_w, nX8 cI cZ cQ h_b w_b, nX8 cI cZ cQ h_l w_l, nX2 cI cZ cQ h_H (hkf h_k0 h_k1 h_k2 h_k3 h_k4 h_k5 h_k6 h_k7) w_H, nX8 cI cZ cQ h_k0 w_k0, nX8 cI cZ cQ h_k1 w_k1, nX8 cI cZ cQ h_k2 w_k2, nX8 cI cZ cQ h_k3 w_k3, nX8 cI cZ cQ h_k4 w_k4, nX8 cI cZ cQ h_k5 w_k5, nX8 cI cZ cQ h_k6 w_k6, nX8 cI cZ cQ h_k7 w_k7, nX7 cI cZ cQ h_x w_x, nX6 cI cZ cQ h_T (h_w 0) (h_L 0) (h_P 0) w_T, nX4 cI cZ cQ h_L (h_w 0) w_L, nX4 cI cZ cQ h_P (h_w 0) w_P, nX6 cI cZ cQ h_C (h_w 0) (h_M 0) (h_Q 0) w_C, nX4 cI cZ cQ h_M (h_w 0) w_M, nX4 cI cZ cQ h_Q (h_w 0) w_Q, nX0 cI cZ cQ h_d (h_w 0) (h_T 0) w_d, nX1 cI cZ cQ h_F (h_G 0) w_F, nX4 cI cZ cQ h_G (h_w 0) w_G, nX5 cI cZ cQ h_r (h_w 0) w_r, nX3 cI cZ cQ h_n (h_w 0) w_n, nX10 cI cZ cQ h_m w_m]) [(0, .ref bS), (1, .ref (h_t 0)), (2, .ref (h_m 0)), (3, .int y3)] [] := by
  intro w_t w_w w_b w_l w_H w_k0 w_k1 w_k2 w_k3 w_k4 w_k5 w_k6 w_k7 w_x w_T w_L w_P w_C w_M w_Q w_d w_F w_G w_r w_n w_m y3 hf
  unfold fL_b1679 at hf
  refine r_ald_n O 1680 rfl 1 rfl dL_law_1679 ?_
  refine r_ald_n O 1681 rfl 0 rfl dL_law_1680 ?_
  refine r_ild_n O 1682 rfl 3 rfl dL_law_1681 ?_
  refine r_ic O 1683 rfl 1 (by decide) dL_law_1682 ?_
  refine r_iadd O 1684 rfl dL_law_1683 ?_
  obtain ⟨x1684, ex1684, hin1684, hf⟩ := qld_some hf
  refine r_sld O S 1685 rfl hin1684 dL_law_1684 ?_
  rw [← ex1684]
  refine r_ald_n O 1686 rfl 0 rfl dL_law_1685 ?_
  refine r_ild_n O 1687 rfl 3 rfl dL_law_1686 ?_
  refine r_ic O 1688 rfl 2 (by decide) dL_law_1687 ?_
  refine r_iadd O 1689 rfl dL_law_1688 ?_
  obtain ⟨x1689, ex1689, hin1689, hf⟩ := qld_some hf
  refine r_sld O S 1690 rfl hin1689 dL_law_1689 ?_
  rw [← ex1689]
  refine r_ald_n O 1691 rfl 0 rfl dL_law_1690 ?_
  refine r_ild_n O 1692 rfl 3 rfl dL_law_1691 ?_
  refine r_ic O 1693 rfl 3 (by decide) dL_law_1692 ?_
  refine r_iadd O 1694 rfl dL_law_1693 ?_
  obtain ⟨x1694, ex1694, hin1694, hf⟩ := qld_some hf
  refine r_sld O S 1695 rfl hin1694 dL_law_1694 ?_
  rw [← ex1694]
  obtain ⟨x1695, p1695_n, hq1695, hf⟩ := qb2_some hf
  refine k_VL O 1698 rfl (zX9_clearance (l := xl X) (D := xD X) (cI := cI) (cZ := cZ) (cQ := cQ) (h_t := h_t) (h_w := h_w) (r_b := (h_b 0)) (r_l := (h_l 0)) (r_H := (h_H 0)) (r_x := (h_x 0)) (r_T := (h_T 0)) (r_C := (h_C 0)) (r_d := (h_d 0)) (r_F := (h_F 0)) (r_r := (h_r 0)) (h_n := h_n) hq1695) (gV mlL_194 mvX9_clearance izX9) rfl rfl rfl hdX9_clearance ⟨Nat.le_of_ble_eq_true rfl, Nat.le_of_ble_eq_true rfl⟩ rfl 0 rfl rfl rfl rfl (Nat.le_of_ble_eq_true rfl) ⟨Nat.le_of_ble_eq_true rfl, Nat.le_of_ble_eq_true rfl⟩ [0, 1, 24] rfl rfl rfl ([nX9 cI cZ cQ h_t (h_w 0) (h_b 0) (h_l 0) (h_H 0) (h_x 0) (h_T 0) (h_C 0) (h_d 0) (h_F 0) (h_r 0) (h_n 0) w_t, nX8 cI cZ cQ h_w w_w, nX8 cI cZ cQ h_b w_b, nX8 cI cZ cQ h_l w_l, nX2 cI cZ cQ h_H (hkf h_k0 h_k1 h_k2 h_k3 h_k4 h_k5 h_k6 h_k7) w_H, nX8 cI cZ cQ h_k0 w_k0, nX8 cI cZ cQ h_k1 w_k1, nX8 cI cZ cQ h_k2 w_k2, nX8 cI cZ cQ h_k3 w_k3, nX8 cI cZ cQ h_k4 w_k4, nX8 cI cZ cQ h_k5 w_k5, nX8 cI cZ cQ h_k6 w_k6, nX8 cI cZ cQ h_k7 w_k7, nX7 cI cZ cQ h_x w_x, nX6 cI cZ cQ h_T (h_w 0) (h_L 0) (h_P 0) w_T, nX4 cI cZ cQ h_L (h_w 0) w_L, nX4 cI cZ cQ h_P (h_w 0) w_P, nX6 cI cZ cQ h_C (h_w 0) (h_M 0) (h_Q 0) w_C, nX4 cI cZ cQ h_M (h_w 0) w_M, nX4 cI cZ cQ h_Q (h_w 0) w_Q, nX0 cI cZ cQ h_d (h_w 0) (h_T 0) w_d, nX1 cI cZ cQ h_F (h_G 0) w_F, nX4 cI cZ cQ h_G (h_w 0) w_G, nX5 cI cZ cQ h_r (h_w 0) w_r, nX3 cI cZ cQ h_n (h_w 0) p1695_n, nX10 cI cZ cQ h_m w_m]) rfl dL_law_1695 ?_
  refine r_ald_n O 1699 rfl 2 rfl dL_law_1698 ?_
  refine r_ald_n O 1700 rfl 0 rfl dL_law_1699 ?_
  refine r_ild_n O 1701 rfl 3 rfl dL_law_1700 ?_
  refine r_ic O 1702 rfl 1 (by decide) dL_law_1701 ?_
  refine r_iadd O 1703 rfl dL_law_1702 ?_
  obtain ⟨x1703, ex1703, hin1703, hf⟩ := qld_some hf
  refine r_sld O S 1704 rfl hin1703 dL_law_1703 ?_
  rw [← ex1703]
  refine r_ald_n O 1705 rfl 0 rfl dL_law_1704 ?_
  refine r_ild_n O 1706 rfl 3 rfl dL_law_1705 ?_
  refine r_ic O 1707 rfl 2 (by decide) dL_law_1706 ?_
  refine r_iadd O 1708 rfl dL_law_1707 ?_
  obtain ⟨x1708, ex1708, hin1708, hf⟩ := qld_some hf
  refine r_sld O S 1709 rfl hin1708 dL_law_1708 ?_
  rw [← ex1708]
  refine r_ald_n O 1710 rfl 0 rfl dL_law_1709 ?_
  refine r_ild_n O 1711 rfl 3 rfl dL_law_1710 ?_
  refine r_ic O 1712 rfl 3 (by decide) dL_law_1711 ?_
  refine r_iadd O 1713 rfl dL_law_1712 ?_
  obtain ⟨x1713, ex1713, hin1713, hf⟩ := qld_some hf
  refine r_sld O S 1714 rfl hin1713 dL_law_1713 ?_
  rw [← ex1713]
  obtain ⟨x1714, p1714_m, hq1714, hf⟩ := qb2_some hf
  refine k_VL O 1717 rfl (zX10_clearance (l := xl X) (D := xD X) (cI := cI) (cZ := cZ) (cQ := cQ) (h_t := h_m) hq1714) (gV mlL_198 mvX10_clearance izX10) rfl rfl rfl hdX10_clearance ⟨Nat.le_of_ble_eq_true rfl, Nat.le_of_ble_eq_true rfl⟩ rfl 25 rfl rfl rfl rfl (Nat.le_of_ble_eq_true rfl) ⟨Nat.le_of_ble_eq_true rfl, Nat.le_of_ble_eq_true rfl⟩ [25] rfl rfl rfl ([nX9 cI cZ cQ h_t (h_w 0) (h_b 0) (h_l 0) (h_H 0) (h_x 0) (h_T 0) (h_C 0) (h_d 0) (h_F 0) (h_r 0) (h_n 0) w_t, nX8 cI cZ cQ h_w w_w, nX8 cI cZ cQ h_b w_b, nX8 cI cZ cQ h_l w_l, nX2 cI cZ cQ h_H (hkf h_k0 h_k1 h_k2 h_k3 h_k4 h_k5 h_k6 h_k7) w_H, nX8 cI cZ cQ h_k0 w_k0, nX8 cI cZ cQ h_k1 w_k1, nX8 cI cZ cQ h_k2 w_k2, nX8 cI cZ cQ h_k3 w_k3, nX8 cI cZ cQ h_k4 w_k4, nX8 cI cZ cQ h_k5 w_k5, nX8 cI cZ cQ h_k6 w_k6, nX8 cI cZ cQ h_k7 w_k7, nX7 cI cZ cQ h_x w_x, nX6 cI cZ cQ h_T (h_w 0) (h_L 0) (h_P 0) w_T, nX4 cI cZ cQ h_L (h_w 0) w_L, nX4 cI cZ cQ h_P (h_w 0) w_P, nX6 cI cZ cQ h_C (h_w 0) (h_M 0) (h_Q 0) w_C, nX4 cI cZ cQ h_M (h_w 0) w_M, nX4 cI cZ cQ h_Q (h_w 0) w_Q, nX0 cI cZ cQ h_d (h_w 0) (h_T 0) w_d, nX1 cI cZ cQ h_F (h_G 0) w_F, nX4 cI cZ cQ h_G (h_w 0) w_G, nX5 cI cZ cQ h_r (h_w 0) w_r, nX3 cI cZ cQ h_n (h_w 0) p1695_n, nX10 cI cZ cQ h_m p1714_m]) rfl dL_law_1714 ?_
  refine r_lcmp O 1718 rfl dL_law_1717 ?_
  refine r_if_eq O 1721 rfl 1795 dL_law_1718 (by decide) (fun hc1718 => ?_) (fun hc1718 => ?_)
  · rw [if_pos hc1718] at hf
    exact lwB1795 O S E rec18 hrec18 _ _ _ _ _ _ _ _ _ _ _ _ _ _ _ _ _ _ _ _ _ _ _ _ _ _ _ hf
  · rw [if_neg hc1718] at hf
    refine r_ic O 1722 rfl 0 (by decide) dL_law_1721 ?_
    exact absurd (qe1 hf) (by decide)
set_option maxHeartbeats 40000000 in
set_option maxRecDepth 100000 in
theorem lwB404 {X : Cx} {cI cZ cQ : ClassId} {bS L : Nat} {xs : Nat → Int32} (O : OK X cL_law 8 RL wB room_1 cI cZ cQ) (S : SX X bS L xs) (E : ∀ {pc : Nat} {ws : List va_W} {lv : List (Nat × Value)}, decode cL_law pc = .ok (.ireturn, 1) → BK X 8 177 15831 pc ws lv [.int 1]) {h_t h_w h_b h_l h_H h_k0 h_k1 h_k2 h_k3 h_k4 h_k5 h_k6 h_k7 h_x h_T h_L h_P h_C h_M h_Q h_d h_F h_G h_r h_n h_m : Nat → Nat} (rec18 : Pk → Pk → Pk → Pk → Pk → Pk → Pk → Pk → Pk → Pk → Pk → Pk → Pk → Pk → Pk → Pk → Pk → Pk → Pk → Pk → Pk → Pk → Pk → Pk → Pk → Pk → Int32 → Option Int32) (hrec18 : ∀ (w_t : Pk) (w_w : Pk) (w_b : Pk) (w_l : Pk) (w_H : Pk) (w_k0 : Pk) (w_k1 : Pk) (w_k2 : Pk) (w_k3 : Pk) (w_k4 : Pk) (w_k5 : Pk) (w_k6 : Pk) (w_k7 : Pk) (w_x : Pk) (w_T : Pk) (w_L : Pk) (w_P : Pk) (w_C : Pk) (w_M : Pk) (w_Q : Pk) (w_d : Pk) (w_F : Pk) (w_G : Pk) (w_r : Pk) (w_n : Pk) (w_m : Pk) (y3 : Int32), rec18 w_t w_w w_b w_l w_H w_k0 w_k1 w_k2 w_k3 w_k4 w_k5 w_k6 w_k7 w_x w_T w_L w_P w_C w_M w_Q w_d w_F w_G w_r w_n w_m y3 = some 1 → BK X 8 177 15831 18 ([nX9 cI cZ cQ h_t (h_w 0) (h_b 0) (h_l 0) (h_H 0) (h_x 0) (h_T 0) (h_C 0) (h_d 0) (h_F 0) (h_r 0) (h_n 0) w_t, nX8 cI cZ cQ h_w w_w, nX8 cI cZ cQ h_b w_b, nX8 cI cZ cQ h_l w_l, nX2 cI cZ cQ h_H (hkf h_k0 h_k1 h_k2 h_k3 h_k4 h_k5 h_k6 h_k7) w_H, nX8 cI cZ cQ h_k0 w_k0, nX8 cI cZ cQ h_k1 w_k1, nX8 cI cZ cQ h_k2 w_k2, nX8 cI cZ cQ h_k3 w_k3, nX8 cI cZ cQ h_k4 w_k4, nX8 cI cZ cQ h_k5 w_k5, nX8 cI cZ cQ h_k6 w_k6, nX8 cI cZ cQ h_k7 w_k7, nX7 cI cZ cQ h_x w_x, nX6 cI cZ cQ h_T (h_w 0) (h_L 0) (h_P 0) w_T, nX4 cI cZ cQ h_L (h_w 0) w_L, nX4 cI cZ cQ h_P (h_w 0) w_P, nX6 cI cZ cQ h_C (h_w 0) (h_M 0) (h_Q 0) w_C, nX4 cI cZ cQ h_M (h_w 0) w_M, nX4 cI cZ cQ h_Q (h_w 0) w_Q, nX0 cI cZ cQ h_d (h_w 0) (h_T 0) w_d, nX1 cI cZ cQ h_F (h_G 0) w_F, nX4 cI cZ cQ h_G (h_w 0) w_G, nX5 cI cZ cQ h_r (h_w 0) w_r, nX3 cI cZ cQ h_n (h_w 0) w_n, nX10 cI cZ cQ h_m w_m]) [(0, .ref bS), (1, .ref (h_t 0)), (2, .ref (h_m 0)), (3, .int y3)] []) : ∀ (w_t : Pk) (w_w : Pk) (w_b : Pk) (w_l : Pk) (w_H : Pk) (w_k0 : Pk) (w_k1 : Pk) (w_k2 : Pk) (w_k3 : Pk) (w_k4 : Pk) (w_k5 : Pk) (w_k6 : Pk) (w_k7 : Pk) (w_x : Pk) (w_T : Pk) (w_L : Pk) (w_P : Pk) (w_C : Pk) (w_M : Pk) (w_Q : Pk) (w_d : Pk) (w_F : Pk) (w_G : Pk) (w_r : Pk) (w_n : Pk) (w_m : Pk) (y3 : Int32), fL_b404 L xs rec18 w_t w_w w_b w_l w_H w_k0 w_k1 w_k2 w_k3 w_k4 w_k5 w_k6 w_k7 w_x w_T w_L w_P w_C w_M w_Q w_d w_F w_G w_r w_n w_m y3 = some 1 → BK X 8 177 15831 404 ([nX9 cI cZ cQ h_t (h_w 0) (h_b 0) (h_l 0) (h_H 0) (h_x 0) (h_T 0) (h_C 0) (h_d 0) (h_F 0) (h_r 0) (h_n 0) w_t, nX8 cI cZ cQ h_w w_w, nX8 cI cZ cQ h_b w_b, nX8 cI cZ cQ h_l w_l, nX2 cI cZ cQ h_H (hkf h_k0 h_k1 h_k2 h_k3 h_k4 h_k5 h_k6 h_k7) w_H, nX8 cI cZ cQ h_k0 w_k0, nX8 cI cZ cQ h_k1 w_k1, nX8 cI cZ cQ h_k2 w_k2, nX8 cI cZ cQ h_k3 w_k3, nX8 cI cZ cQ h_k4 w_k4, nX8 cI cZ cQ h_k5 w_k5, nX8 cI cZ cQ h_k6 w_k6, nX8 cI cZ cQ h_k7 w_k7, nX7 cI cZ cQ h_x w_x, nX6 cI cZ cQ h_T (h_w 0) (h_L 0) (h_P 0) w_T, nX4 cI cZ cQ h_L (h_w 0) w_L, nX4 cI cZ cQ h_P (h_w 0) w_P, nX6 cI cZ cQ h_C (h_w 0) (h_M 0) (h_Q 0) w_C, nX4 cI cZ cQ h_M (h_w 0) w_M, nX4 cI cZ cQ h_Q (h_w 0) w_Q, nX0 cI cZ cQ h_d (h_w 0) (h_T 0) w_d, nX1 cI cZ cQ h_F (h_G 0) w_F, nX4 cI cZ cQ h_G (h_w 0) w_G, nX5 cI cZ cQ h_r (h_w 0) w_r, nX3 cI cZ cQ h_n (h_w 0) w_n, nX10 cI cZ cQ h_m w_m]) [(0, .ref bS), (1, .ref (h_t 0)), (2, .ref (h_m 0)), (3, .int y3)] [] := by
  intro w_t w_w w_b w_l w_H w_k0 w_k1 w_k2 w_k3 w_k4 w_k5 w_k6 w_k7 w_x w_T w_L w_P w_C w_M w_Q w_d w_F w_G w_r w_n w_m y3 hf
  unfold fL_b404 at hf
  refine r_ald_n O 405 rfl 1 rfl dL_law_404 ?_
  refine r_ald_n O 406 rfl 0 rfl dL_law_405 ?_
  refine r_ild_n O 407 rfl 3 rfl dL_law_406 ?_
  refine r_ic O 408 rfl 1 (by decide) dL_law_407 ?_
  refine r_iadd O 409 rfl dL_law_408 ?_
  obtain ⟨x409, ex409, hin409, hf⟩ := qld_some hf
  refine r_sld O S 410 rfl hin409 dL_law_409 ?_
  rw [← ex409]
  refine r_ald_n O 411 rfl 0 rfl dL_law_410 ?_
  refine r_ild_n O 412 rfl 3 rfl dL_law_411 ?_
  refine r_ic O 413 rfl 2 (by decide) dL_law_412 ?_
  refine r_iadd O 414 rfl dL_law_413 ?_
  obtain ⟨x414, ex414, hin414, hf⟩ := qld_some hf
  refine r_sld O S 415 rfl hin414 dL_law_414 ?_
  rw [← ex414]
  obtain ⟨x415, p415_t, p415_w, p415_H, p415_k0, p415_k1, p415_k2, p415_k3, p415_k4, p415_k5, p415_k6, p415_k7, hq415, hf⟩ := qb12_some hf
  refine k_VI O 418 rfl (zX9_setKind (l := xl X) (D := xD X) (cI := cI) (cZ := cZ) (cQ := cQ) (h_t := h_t) (h_w := h_w) (r_b := (h_b 0)) (r_l := (h_l 0)) (h_H := h_H) (h_k0 := h_k0) (h_k1 := h_k1) (h_k2 := h_k2) (h_k3 := h_k3) (h_k4 := h_k4) (h_k5 := h_k5) (h_k6 := h_k6) (h_k7 := h_k7) (r_x := (h_x 0)) (r_T := (h_T 0)) (r_C := (h_C 0)) (r_d := (h_d 0)) (r_F := (h_F 0)) (r_r := (h_r 0)) (r_n := (h_n 0)) hq415) (gV mlL_32 mvX9_setKind izX9) rfl rfl rfl hdX9_setKind ⟨Nat.le_of_ble_eq_true rfl, Nat.le_of_ble_eq_true rfl⟩ rfl 0 rfl rfl rfl rfl (Nat.le_of_ble_eq_true rfl) ⟨Nat.le_of_ble_eq_true rfl, Nat.le_of_ble_eq_true rfl⟩ [0, 1, 4, 5, 6, 7, 8, 9, 10, 11, 12] rfl rfl rfl ([nX9 cI cZ cQ h_t (h_w 0) (h_b 0) (h_l 0) (h_H 0) (h_x 0) (h_T 0) (h_C 0) (h_d 0) (h_F 0) (h_r 0) (h_n 0) p415_t, nX8 cI cZ cQ h_w p415_w, nX8 cI cZ cQ h_b w_b, nX8 cI cZ cQ h_l w_l, nX2 cI cZ cQ h_H (hkf h_k0 h_k1 h_k2 h_k3 h_k4 h_k5 h_k6 h_k7) p415_H, nX8 cI cZ cQ h_k0 p415_k0, nX8 cI cZ cQ h_k1 p415_k1, nX8 cI cZ cQ h_k2 p415_k2, nX8 cI cZ cQ h_k3 p415_k3, nX8 cI cZ cQ h_k4 p415_k4, nX8 cI cZ cQ h_k5 p415_k5, nX8 cI cZ cQ h_k6 p415_k6, nX8 cI cZ cQ h_k7 p415_k7, nX7 cI cZ cQ h_x w_x, nX6 cI cZ cQ h_T (h_w 0) (h_L 0) (h_P 0) w_T, nX4 cI cZ cQ h_L (h_w 0) w_L, nX4 cI cZ cQ h_P (h_w 0) w_P, nX6 cI cZ cQ h_C (h_w 0) (h_M 0) (h_Q 0) w_C, nX4 cI cZ cQ h_M (h_w 0) w_M, nX4 cI cZ cQ h_Q (h_w 0) w_Q, nX0 cI cZ cQ h_d (h_w 0) (h_T 0) w_d, nX1 cI cZ cQ h_F (h_G 0) w_F, nX4 cI cZ cQ h_G (h_w 0) w_G, nX5 cI cZ cQ h_r (h_w 0) w_r, nX3 cI cZ cQ h_n (h_w 0) w_n, nX10 cI cZ cQ h_m w_m]) rfl dL_law_415 ?_
  refine r_ald_n O 419 rfl 2 rfl dL_law_418 ?_
  refine r_ald_n O 420 rfl 0 rfl dL_law_419 ?_
  refine r_ild_n O 421 rfl 3 rfl dL_law_420 ?_
  refine r_ic O 422 rfl 1 (by decide) dL_law_421 ?_
  refine r_iadd O 423 rfl dL_law_422 ?_
  obtain ⟨x423, ex423, hin423, hf⟩ := qld_some hf
  refine r_sld O S 424 rfl hin423 dL_law_423 ?_
  rw [← ex423]
  refine r_ald_n O 425 rfl 0 rfl dL_law_424 ?_
  refine r_ild_n O 426 rfl 3 rfl dL_law_425 ?_
  refine r_ic O 427 rfl 2 (by decide) dL_law_426 ?_
  refine r_iadd O 428 rfl dL_law_427 ?_
  obtain ⟨x428, ex428, hin428, hf⟩ := qld_some hf
  refine r_sld O S 429 rfl hin428 dL_law_428 ?_
  rw [← ex428]
  obtain ⟨x429, p429_m, hq429, hf⟩ := qb2_some hf
  refine k_VI O 432 rfl (zX10_setKind (l := xl X) (D := xD X) (cI := cI) (cZ := cZ) (cQ := cQ) (h_t := h_m) hq429) (gV mlL_36 mvX10_setKind izX10) rfl rfl rfl hdX10_setKind ⟨Nat.le_of_ble_eq_true rfl, Nat.le_of_ble_eq_true rfl⟩ rfl 25 rfl rfl rfl rfl (Nat.le_of_ble_eq_true rfl) ⟨Nat.le_of_ble_eq_true rfl, Nat.le_of_ble_eq_true rfl⟩ [25] rfl rfl rfl ([nX9 cI cZ cQ h_t (h_w 0) (h_b 0) (h_l 0) (h_H 0) (h_x 0) (h_T 0) (h_C 0) (h_d 0) (h_F 0) (h_r 0) (h_n 0) p415_t, nX8 cI cZ cQ h_w p415_w, nX8 cI cZ cQ h_b w_b, nX8 cI cZ cQ h_l w_l, nX2 cI cZ cQ h_H (hkf h_k0 h_k1 h_k2 h_k3 h_k4 h_k5 h_k6 h_k7) p415_H, nX8 cI cZ cQ h_k0 p415_k0, nX8 cI cZ cQ h_k1 p415_k1, nX8 cI cZ cQ h_k2 p415_k2, nX8 cI cZ cQ h_k3 p415_k3, nX8 cI cZ cQ h_k4 p415_k4, nX8 cI cZ cQ h_k5 p415_k5, nX8 cI cZ cQ h_k6 p415_k6, nX8 cI cZ cQ h_k7 p415_k7, nX7 cI cZ cQ h_x w_x, nX6 cI cZ cQ h_T (h_w 0) (h_L 0) (h_P 0) w_T, nX4 cI cZ cQ h_L (h_w 0) w_L, nX4 cI cZ cQ h_P (h_w 0) w_P, nX6 cI cZ cQ h_C (h_w 0) (h_M 0) (h_Q 0) w_C, nX4 cI cZ cQ h_M (h_w 0) w_M, nX4 cI cZ cQ h_Q (h_w 0) w_Q, nX0 cI cZ cQ h_d (h_w 0) (h_T 0) w_d, nX1 cI cZ cQ h_F (h_G 0) w_F, nX4 cI cZ cQ h_G (h_w 0) w_G, nX5 cI cZ cQ h_r (h_w 0) w_r, nX3 cI cZ cQ h_n (h_w 0) w_n, nX10 cI cZ cQ h_m p429_m]) rfl dL_law_429 ?_
  refine r_icmp_eq O 435 rfl 1795 dL_law_432 (by decide) (fun hc432 => ?_) (fun hc432 => ?_)
  · rw [if_pos hc432] at hf
    exact lwB1795 O S E rec18 hrec18 _ _ _ _ _ _ _ _ _ _ _ _ _ _ _ _ _ _ _ _ _ _ _ _ _ _ _ hf
  · rw [if_neg hc432] at hf
    refine r_ic O 436 rfl 0 (by decide) dL_law_435 ?_
    exact absurd (qe1 hf) (by decide)
set_option maxHeartbeats 40000000 in
set_option maxRecDepth 100000 in
theorem lwB959 {X : Cx} {cI cZ cQ : ClassId} {bS L : Nat} {xs : Nat → Int32} (O : OK X cL_law 8 RL wB room_1 cI cZ cQ) (S : SX X bS L xs) (E : ∀ {pc : Nat} {ws : List va_W} {lv : List (Nat × Value)}, decode cL_law pc = .ok (.ireturn, 1) → BK X 8 177 15831 pc ws lv [.int 1]) {h_t h_w h_b h_l h_H h_k0 h_k1 h_k2 h_k3 h_k4 h_k5 h_k6 h_k7 h_x h_T h_L h_P h_C h_M h_Q h_d h_F h_G h_r h_n h_m : Nat → Nat} (rec18 : Pk → Pk → Pk → Pk → Pk → Pk → Pk → Pk → Pk → Pk → Pk → Pk → Pk → Pk → Pk → Pk → Pk → Pk → Pk → Pk → Pk → Pk → Pk → Pk → Pk → Pk → Int32 → Option Int32) (hrec18 : ∀ (w_t : Pk) (w_w : Pk) (w_b : Pk) (w_l : Pk) (w_H : Pk) (w_k0 : Pk) (w_k1 : Pk) (w_k2 : Pk) (w_k3 : Pk) (w_k4 : Pk) (w_k5 : Pk) (w_k6 : Pk) (w_k7 : Pk) (w_x : Pk) (w_T : Pk) (w_L : Pk) (w_P : Pk) (w_C : Pk) (w_M : Pk) (w_Q : Pk) (w_d : Pk) (w_F : Pk) (w_G : Pk) (w_r : Pk) (w_n : Pk) (w_m : Pk) (y3 : Int32), rec18 w_t w_w w_b w_l w_H w_k0 w_k1 w_k2 w_k3 w_k4 w_k5 w_k6 w_k7 w_x w_T w_L w_P w_C w_M w_Q w_d w_F w_G w_r w_n w_m y3 = some 1 → BK X 8 177 15831 18 ([nX9 cI cZ cQ h_t (h_w 0) (h_b 0) (h_l 0) (h_H 0) (h_x 0) (h_T 0) (h_C 0) (h_d 0) (h_F 0) (h_r 0) (h_n 0) w_t, nX8 cI cZ cQ h_w w_w, nX8 cI cZ cQ h_b w_b, nX8 cI cZ cQ h_l w_l, nX2 cI cZ cQ h_H (hkf h_k0 h_k1 h_k2 h_k3 h_k4 h_k5 h_k6 h_k7) w_H, nX8 cI cZ cQ h_k0 w_k0, nX8 cI cZ cQ h_k1 w_k1, nX8 cI cZ cQ h_k2 w_k2, nX8 cI cZ cQ h_k3 w_k3, nX8 cI cZ cQ h_k4 w_k4, nX8 cI cZ cQ h_k5 w_k5, nX8 cI cZ cQ h_k6 w_k6, nX8 cI cZ cQ h_k7 w_k7, nX7 cI cZ cQ h_x w_x, nX6 cI cZ cQ h_T (h_w 0) (h_L 0) (h_P 0) w_T, nX4 cI cZ cQ h_L (h_w 0) w_L, nX4 cI cZ cQ h_P (h_w 0) w_P, nX6 cI cZ cQ h_C (h_w 0) (h_M 0) (h_Q 0) w_C, nX4 cI cZ cQ h_M (h_w 0) w_M, nX4 cI cZ cQ h_Q (h_w 0) w_Q, nX0 cI cZ cQ h_d (h_w 0) (h_T 0) w_d, nX1 cI cZ cQ h_F (h_G 0) w_F, nX4 cI cZ cQ h_G (h_w 0) w_G, nX5 cI cZ cQ h_r (h_w 0) w_r, nX3 cI cZ cQ h_n (h_w 0) w_n, nX10 cI cZ cQ h_m w_m]) [(0, .ref bS), (1, .ref (h_t 0)), (2, .ref (h_m 0)), (3, .int y3)] []) : ∀ (w_t : Pk) (w_w : Pk) (w_b : Pk) (w_l : Pk) (w_H : Pk) (w_k0 : Pk) (w_k1 : Pk) (w_k2 : Pk) (w_k3 : Pk) (w_k4 : Pk) (w_k5 : Pk) (w_k6 : Pk) (w_k7 : Pk) (w_x : Pk) (w_T : Pk) (w_L : Pk) (w_P : Pk) (w_C : Pk) (w_M : Pk) (w_Q : Pk) (w_d : Pk) (w_F : Pk) (w_G : Pk) (w_r : Pk) (w_n : Pk) (w_m : Pk) (y3 : Int32), fL_b959 L xs rec18 w_t w_w w_b w_l w_H w_k0 w_k1 w_k2 w_k3 w_k4 w_k5 w_k6 w_k7 w_x w_T w_L w_P w_C w_M w_Q w_d w_F w_G w_r w_n w_m y3 = some 1 → BK X 8 177 15831 959 ([nX9 cI cZ cQ h_t (h_w 0) (h_b 0) (h_l 0) (h_H 0) (h_x 0) (h_T 0) (h_C 0) (h_d 0) (h_F 0) (h_r 0) (h_n 0) w_t, nX8 cI cZ cQ h_w w_w, nX8 cI cZ cQ h_b w_b, nX8 cI cZ cQ h_l w_l, nX2 cI cZ cQ h_H (hkf h_k0 h_k1 h_k2 h_k3 h_k4 h_k5 h_k6 h_k7) w_H, nX8 cI cZ cQ h_k0 w_k0, nX8 cI cZ cQ h_k1 w_k1, nX8 cI cZ cQ h_k2 w_k2, nX8 cI cZ cQ h_k3 w_k3, nX8 cI cZ cQ h_k4 w_k4, nX8 cI cZ cQ h_k5 w_k5, nX8 cI cZ cQ h_k6 w_k6, nX8 cI cZ cQ h_k7 w_k7, nX7 cI cZ cQ h_x w_x, nX6 cI cZ cQ h_T (h_w 0) (h_L 0) (h_P 0) w_T, nX4 cI cZ cQ h_L (h_w 0) w_L, nX4 cI cZ cQ h_P (h_w 0) w_P, nX6 cI cZ cQ h_C (h_w 0) (h_M 0) (h_Q 0) w_C, nX4 cI cZ cQ h_M (h_w 0) w_M, nX4 cI cZ cQ h_Q (h_w 0) w_Q, nX0 cI cZ cQ h_d (h_w 0) (h_T 0) w_d, nX1 cI cZ cQ h_F (h_G 0) w_F, nX4 cI cZ cQ h_G (h_w 0) w_G, nX5 cI cZ cQ h_r (h_w 0) w_r, nX3 cI cZ cQ h_n (h_w 0) w_n, nX10 cI cZ cQ h_m w_m]) [(0, .ref bS), (1, .ref (h_t 0)), (2, .ref (h_m 0)), (3, .int y3)] [] := by
  intro w_t w_w w_b w_l w_H w_k0 w_k1 w_k2 w_k3 w_k4 w_k5 w_k6 w_k7 w_x w_T w_L w_P w_C w_M w_Q w_d w_F w_G w_r w_n w_m y3 hf
  unfold fL_b959 at hf
  refine r_goto O 1795 dL_law_959 (by decide) ?_
  exact lwB1795 O S E rec18 hrec18 _ _ _ _ _ _ _ _ _ _ _ _ _ _ _ _ _ _ _ _ _ _ _ _ _ _ _ hf
set_option maxHeartbeats 40000000 in
set_option maxRecDepth 100000 in
theorem lwB921 {X : Cx} {cI cZ cQ : ClassId} {bS L : Nat} {xs : Nat → Int32} (O : OK X cL_law 8 RL wB room_1 cI cZ cQ) (S : SX X bS L xs) (E : ∀ {pc : Nat} {ws : List va_W} {lv : List (Nat × Value)}, decode cL_law pc = .ok (.ireturn, 1) → BK X 8 177 15831 pc ws lv [.int 1]) {h_t h_w h_b h_l h_H h_k0 h_k1 h_k2 h_k3 h_k4 h_k5 h_k6 h_k7 h_x h_T h_L h_P h_C h_M h_Q h_d h_F h_G h_r h_n h_m : Nat → Nat} (rec18 : Pk → Pk → Pk → Pk → Pk → Pk → Pk → Pk → Pk → Pk → Pk → Pk → Pk → Pk → Pk → Pk → Pk → Pk → Pk → Pk → Pk → Pk → Pk → Pk → Pk → Pk → Int32 → Option Int32) (hrec18 : ∀ (w_t : Pk) (w_w : Pk) (w_b : Pk) (w_l : Pk) (w_H : Pk) (w_k0 : Pk) (w_k1 : Pk) (w_k2 : Pk) (w_k3 : Pk) (w_k4 : Pk) (w_k5 : Pk) (w_k6 : Pk) (w_k7 : Pk) (w_x : Pk) (w_T : Pk) (w_L : Pk) (w_P : Pk) (w_C : Pk) (w_M : Pk) (w_Q : Pk) (w_d : Pk) (w_F : Pk) (w_G : Pk) (w_r : Pk) (w_n : Pk) (w_m : Pk) (y3 : Int32), rec18 w_t w_w w_b w_l w_H w_k0 w_k1 w_k2 w_k3 w_k4 w_k5 w_k6 w_k7 w_x w_T w_L w_P w_C w_M w_Q w_d w_F w_G w_r w_n w_m y3 = some 1 → BK X 8 177 15831 18 ([nX9 cI cZ cQ h_t (h_w 0) (h_b 0) (h_l 0) (h_H 0) (h_x 0) (h_T 0) (h_C 0) (h_d 0) (h_F 0) (h_r 0) (h_n 0) w_t, nX8 cI cZ cQ h_w w_w, nX8 cI cZ cQ h_b w_b, nX8 cI cZ cQ h_l w_l, nX2 cI cZ cQ h_H (hkf h_k0 h_k1 h_k2 h_k3 h_k4 h_k5 h_k6 h_k7) w_H, nX8 cI cZ cQ h_k0 w_k0, nX8 cI cZ cQ h_k1 w_k1, nX8 cI cZ cQ h_k2 w_k2, nX8 cI cZ cQ h_k3 w_k3, nX8 cI cZ cQ h_k4 w_k4, nX8 cI cZ cQ h_k5 w_k5, nX8 cI cZ cQ h_k6 w_k6, nX8 cI cZ cQ h_k7 w_k7, nX7 cI cZ cQ h_x w_x, nX6 cI cZ cQ h_T (h_w 0) (h_L 0) (h_P 0) w_T, nX4 cI cZ cQ h_L (h_w 0) w_L, nX4 cI cZ cQ h_P (h_w 0) w_P, nX6 cI cZ cQ h_C (h_w 0) (h_M 0) (h_Q 0) w_C, nX4 cI cZ cQ h_M (h_w 0) w_M, nX4 cI cZ cQ h_Q (h_w 0) w_Q, nX0 cI cZ cQ h_d (h_w 0) (h_T 0) w_d, nX1 cI cZ cQ h_F (h_G 0) w_F, nX4 cI cZ cQ h_G (h_w 0) w_G, nX5 cI cZ cQ h_r (h_w 0) w_r, nX3 cI cZ cQ h_n (h_w 0) w_n, nX10 cI cZ cQ h_m w_m]) [(0, .ref bS), (1, .ref (h_t 0)), (2, .ref (h_m 0)), (3, .int y3)] []) : ∀ (w_t : Pk) (w_w : Pk) (w_b : Pk) (w_l : Pk) (w_H : Pk) (w_k0 : Pk) (w_k1 : Pk) (w_k2 : Pk) (w_k3 : Pk) (w_k4 : Pk) (w_k5 : Pk) (w_k6 : Pk) (w_k7 : Pk) (w_x : Pk) (w_T : Pk) (w_L : Pk) (w_P : Pk) (w_C : Pk) (w_M : Pk) (w_Q : Pk) (w_d : Pk) (w_F : Pk) (w_G : Pk) (w_r : Pk) (w_n : Pk) (w_m : Pk) (y3 : Int32), fL_b921 L xs rec18 w_t w_w w_b w_l w_H w_k0 w_k1 w_k2 w_k3 w_k4 w_k5 w_k6 w_k7 w_x w_T w_L w_P w_C w_M w_Q w_d w_F w_G w_r w_n w_m y3 = some 1 → BK X 8 177 15831 921 ([nX9 cI cZ cQ h_t (h_w 0) (h_b 0) (h_l 0) (h_H 0) (h_x 0) (h_T 0) (h_C 0) (h_d 0) (h_F 0) (h_r 0) (h_n 0) w_t, nX8 cI cZ cQ h_w w_w, nX8 cI cZ cQ h_b w_b, nX8 cI cZ cQ h_l w_l, nX2 cI cZ cQ h_H (hkf h_k0 h_k1 h_k2 h_k3 h_k4 h_k5 h_k6 h_k7) w_H, nX8 cI cZ cQ h_k0 w_k0, nX8 cI cZ cQ h_k1 w_k1, nX8 cI cZ cQ h_k2 w_k2, nX8 cI cZ cQ h_k3 w_k3, nX8 cI cZ cQ h_k4 w_k4, nX8 cI cZ cQ h_k5 w_k5, nX8 cI cZ cQ h_k6 w_k6, nX8 cI cZ cQ h_k7 w_k7, nX7 cI cZ cQ h_x w_x, nX6 cI cZ cQ h_T (h_w 0) (h_L 0) (h_P 0) w_T, nX4 cI cZ cQ h_L (h_w 0) w_L, nX4 cI cZ cQ h_P (h_w 0) w_P, nX6 cI cZ cQ h_C (h_w 0) (h_M 0) (h_Q 0) w_C, nX4 cI cZ cQ h_M (h_w 0) w_M, nX4 cI cZ cQ h_Q (h_w 0) w_Q, nX0 cI cZ cQ h_d (h_w 0) (h_T 0) w_d, nX1 cI cZ cQ h_F (h_G 0) w_F, nX4 cI cZ cQ h_G (h_w 0) w_G, nX5 cI cZ cQ h_r (h_w 0) w_r, nX3 cI cZ cQ h_n (h_w 0) w_n, nX10 cI cZ cQ h_m w_m]) [(0, .ref bS), (1, .ref (h_t 0)), (2, .ref (h_m 0)), (3, .int y3)] [] := by
  intro w_t w_w w_b w_l w_H w_k0 w_k1 w_k2 w_k3 w_k4 w_k5 w_k6 w_k7 w_x w_T w_L w_P w_C w_M w_Q w_d w_F w_G w_r w_n w_m y3 hf
  unfold fL_b921 at hf
  refine r_ald_n O 922 rfl 1 rfl dL_law_921 ?_
  obtain ⟨x922, p922_t, p922_b, p922_T, p922_L, p922_P, hq922, hf⟩ := qb6_some hf
  refine k_VD O 925 rfl (zX9_meanLeafDepth (l := xl X) (D := xD X) (cI := cI) (cZ := cZ) (cQ := cQ) (h_t := h_t) (h_w := h_w) (h_b := h_b) (r_l := (h_l 0)) (r_H := (h_H 0)) (r_x := (h_x 0)) (h_T := h_T) (h_L := h_L) (h_P := h_P) (r_C := (h_C 0)) (r_d := (h_d 0)) (r_F := (h_F 0)) (r_r := (h_r 0)) (r_n := (h_n 0)) hq922) (gV mlL_127 mvX9_meanLeafDepth izX9) rfl rfl rfl hdX9_meanLeafDepth ⟨Nat.le_of_ble_eq_true rfl, Nat.le_of_ble_eq_true rfl⟩ rfl 0 rfl rfl rfl rfl (Nat.le_of_ble_eq_true rfl) ⟨Nat.le_of_ble_eq_true rfl, Nat.le_of_ble_eq_true rfl⟩ [0, 1, 2, 14, 15, 16] rfl rfl rfl ([nX9 cI cZ cQ h_t (h_w 0) (h_b 0) (h_l 0) (h_H 0) (h_x 0) (h_T 0) (h_C 0) (h_d 0) (h_F 0) (h_r 0) (h_n 0) p922_t, nX8 cI cZ cQ h_w w_w, nX8 cI cZ cQ h_b p922_b, nX8 cI cZ cQ h_l w_l, nX2 cI cZ cQ h_H (hkf h_k0 h_k1 h_k2 h_k3 h_k4 h_k5 h_k6 h_k7) w_H, nX8 cI cZ cQ h_k0 w_k0, nX8 cI cZ cQ h_k1 w_k1, nX8 cI cZ cQ h_k2 w_k2, nX8 cI cZ cQ h_k3 w_k3, nX8 cI cZ cQ h_k4 w_k4, nX8 cI cZ cQ h_k5 w_k5, nX8 cI cZ cQ h_k6 w_k6, nX8 cI cZ cQ h_k7 w_k7, nX7 cI cZ cQ h_x w_x, nX6 cI cZ cQ h_T (h_w 0) (h_L 0) (h_P 0) p922_T, nX4 cI cZ cQ h_L (h_w 0) p922_L, nX4 cI cZ cQ h_P (h_w 0) p922_P, nX6 cI cZ cQ h_C (h_w 0) (h_M 0) (h_Q 0) w_C, nX4 cI cZ cQ h_M (h_w 0) w_M, nX4 cI cZ cQ h_Q (h_w 0) w_Q, nX0 cI cZ cQ h_d (h_w 0) (h_T 0) w_d, nX1 cI cZ cQ h_F (h_G 0) w_F, nX4 cI cZ cQ h_G (h_w 0) w_G, nX5 cI cZ cQ h_r (h_w 0) w_r, nX3 cI cZ cQ h_n (h_w 0) w_n, nX10 cI cZ cQ h_m w_m]) rfl dL_law_922 ?_
  refine r_dst O 927 rfl [(4, .double x922), (0, .ref bS), (1, .ref (h_t 0)), (2, .ref (h_m 0)), (3, .int y3)] dL_law_925 (by decide) rfl ?_
  refine r_ald_n O 928 rfl 3 rfl dL_law_927 ?_
  obtain ⟨x928, p928_m, hq928, hf⟩ := qb2_some hf
  refine k_VD O 931 rfl (zX10_meanLeafDepth (l := xl X) (D := xD X) (cI := cI) (cZ := cZ) (cQ := cQ) (h_t := h_m) hq928) (gV mlL_131 mvX10_meanLeafDepth izX10) rfl rfl rfl hdX10_meanLeafDepth ⟨Nat.le_of_ble_eq_true rfl, Nat.le_of_ble_eq_true rfl⟩ rfl 25 rfl rfl rfl rfl (Nat.le_of_ble_eq_true rfl) ⟨Nat.le_of_ble_eq_true rfl, Nat.le_of_ble_eq_true rfl⟩ [25] rfl rfl rfl ([nX9 cI cZ cQ h_t (h_w 0) (h_b 0) (h_l 0) (h_H 0) (h_x 0) (h_T 0) (h_C 0) (h_d 0) (h_F 0) (h_r 0) (h_n 0) p922_t, nX8 cI cZ cQ h_w w_w, nX8 cI cZ cQ h_b p922_b, nX8 cI cZ cQ h_l w_l, nX2 cI cZ cQ h_H (hkf h_k0 h_k1 h_k2 h_k3 h_k4 h_k5 h_k6 h_k7) w_H, nX8 cI cZ cQ h_k0 w_k0, nX8 cI cZ cQ h_k1 w_k1, nX8 cI cZ cQ h_k2 w_k2, nX8 cI cZ cQ h_k3 w_k3, nX8 cI cZ cQ h_k4 w_k4, nX8 cI cZ cQ h_k5 w_k5, nX8 cI cZ cQ h_k6 w_k6, nX8 cI cZ cQ h_k7 w_k7, nX7 cI cZ cQ h_x w_x, nX6 cI cZ cQ h_T (h_w 0) (h_L 0) (h_P 0) p922_T, nX4 cI cZ cQ h_L (h_w 0) p922_L, nX4 cI cZ cQ h_P (h_w 0) p922_P, nX6 cI cZ cQ h_C (h_w 0) (h_M 0) (h_Q 0) w_C, nX4 cI cZ cQ h_M (h_w 0) w_M, nX4 cI cZ cQ h_Q (h_w 0) w_Q, nX0 cI cZ cQ h_d (h_w 0) (h_T 0) w_d, nX1 cI cZ cQ h_F (h_G 0) w_F, nX4 cI cZ cQ h_G (h_w 0) w_G, nX5 cI cZ cQ h_r (h_w 0) w_r, nX3 cI cZ cQ h_n (h_w 0) w_n, nX10 cI cZ cQ h_m p928_m]) rfl dL_law_928 ?_
  refine r_dst O 933 rfl [(6, .double x928), (4, .double x922), (0, .ref bS), (1, .ref (h_t 0)), (2, .ref (h_m 0)), (3, .int y3)] dL_law_931 (by decide) rfl ?_
  refine r_dld O 935 rfl 1 rfl dL_law_933 ?_
  refine r_dld O 937 rfl 0 rfl dL_law_935 ?_
  refine r_dcmp O 938 rfl dL_law_937 ?_
  refine r_if_eq O 941 rfl 959 dL_law_938 (by decide) (fun hc938 => ?_) (fun hc938 => ?_)
  · rw [if_pos hc938] at hf
    refine r_lv [2, 3, 4, 5] rfl ?_
    exact lwB959 O S E rec18 hrec18 _ _ _ _ _ _ _ _ _ _ _ _ _ _ _ _ _ _ _ _ _ _ _ _ _ _ _ hf
  · rw [if_neg hc938] at hf
    refine r_dld O 943 rfl 1 rfl dL_law_941 ?_
    refine r_dld O 945 rfl 1 rfl dL_law_943 ?_
    refine r_dcmp O 946 rfl dL_law_945 ?_
    refine r_if_eq O 949 rfl 957 dL_law_946 (by decide) (fun hc946 => ?_) (fun hc946 => ?_)
    · rw [if_pos hc946] at hf
      refine r_ic O 958 rfl 0 (by decide) dL_law_957 ?_
      exact absurd (qe1 hf) (by decide)
    · rw [if_neg hc946] at hf
      refine r_dld O 951 rfl 0 rfl dL_law_949 ?_
      refine r_dld O 953 rfl 0 rfl dL_law_951 ?_
      refine r_dcmp O 954 rfl dL_law_953 ?_
      refine r_if_ne O 957 rfl 959 dL_law_954 (by decide) (fun hc954 => ?_) (fun hc954 => ?_)
      · rw [if_neg hc954] at hf
        refine r_lv [2, 3, 4, 5] rfl ?_
        exact lwB959 O S E rec18 hrec18 _ _ _ _ _ _ _ _ _ _ _ _ _ _ _ _ _ _ _ _ _ _ _ _ _ _ _ hf
      · rw [if_pos hc954] at hf
        refine r_ic O 958 rfl 0 (by decide) dL_law_957 ?_
        exact absurd (qe1 hf) (by decide)
set_option maxHeartbeats 40000000 in
set_option maxRecDepth 100000 in
theorem lwB666 {X : Cx} {cI cZ cQ : ClassId} {bS L : Nat} {xs : Nat → Int32} (O : OK X cL_law 8 RL wB room_1 cI cZ cQ) (S : SX X bS L xs) (E : ∀ {pc : Nat} {ws : List va_W} {lv : List (Nat × Value)}, decode cL_law pc = .ok (.ireturn, 1) → BK X 8 177 15831 pc ws lv [.int 1]) {h_t h_w h_b h_l h_H h_k0 h_k1 h_k2 h_k3 h_k4 h_k5 h_k6 h_k7 h_x h_T h_L h_P h_C h_M h_Q h_d h_F h_G h_r h_n h_m : Nat → Nat} (rec18 : Pk → Pk → Pk → Pk → Pk → Pk → Pk → Pk → Pk → Pk → Pk → Pk → Pk → Pk → Pk → Pk → Pk → Pk → Pk → Pk → Pk → Pk → Pk → Pk → Pk → Pk → Int32 → Option Int32) (hrec18 : ∀ (w_t : Pk) (w_w : Pk) (w_b : Pk) (w_l : Pk) (w_H : Pk) (w_k0 : Pk) (w_k1 : Pk) (w_k2 : Pk) (w_k3 : Pk) (w_k4 : Pk) (w_k5 : Pk) (w_k6 : Pk) (w_k7 : Pk) (w_x : Pk) (w_T : Pk) (w_L : Pk) (w_P : Pk) (w_C : Pk) (w_M : Pk) (w_Q : Pk) (w_d : Pk) (w_F : Pk) (w_G : Pk) (w_r : Pk) (w_n : Pk) (w_m : Pk) (y3 : Int32), rec18 w_t w_w w_b w_l w_H w_k0 w_k1 w_k2 w_k3 w_k4 w_k5 w_k6 w_k7 w_x w_T w_L w_P w_C w_M w_Q w_d w_F w_G w_r w_n w_m y3 = some 1 → BK X 8 177 15831 18 ([nX9 cI cZ cQ h_t (h_w 0) (h_b 0) (h_l 0) (h_H 0) (h_x 0) (h_T 0) (h_C 0) (h_d 0) (h_F 0) (h_r 0) (h_n 0) w_t, nX8 cI cZ cQ h_w w_w, nX8 cI cZ cQ h_b w_b, nX8 cI cZ cQ h_l w_l, nX2 cI cZ cQ h_H (hkf h_k0 h_k1 h_k2 h_k3 h_k4 h_k5 h_k6 h_k7) w_H, nX8 cI cZ cQ h_k0 w_k0, nX8 cI cZ cQ h_k1 w_k1, nX8 cI cZ cQ h_k2 w_k2, nX8 cI cZ cQ h_k3 w_k3, nX8 cI cZ cQ h_k4 w_k4, nX8 cI cZ cQ h_k5 w_k5, nX8 cI cZ cQ h_k6 w_k6, nX8 cI cZ cQ h_k7 w_k7, nX7 cI cZ cQ h_x w_x, nX6 cI cZ cQ h_T (h_w 0) (h_L 0) (h_P 0) w_T, nX4 cI cZ cQ h_L (h_w 0) w_L, nX4 cI cZ cQ h_P (h_w 0) w_P, nX6 cI cZ cQ h_C (h_w 0) (h_M 0) (h_Q 0) w_C, nX4 cI cZ cQ h_M (h_w 0) w_M, nX4 cI cZ cQ h_Q (h_w 0) w_Q, nX0 cI cZ cQ h_d (h_w 0) (h_T 0) w_d, nX1 cI cZ cQ h_F (h_G 0) w_F, nX4 cI cZ cQ h_G (h_w 0) w_G, nX5 cI cZ cQ h_r (h_w 0) w_r, nX3 cI cZ cQ h_n (h_w 0) w_n, nX10 cI cZ cQ h_m w_m]) [(0, .ref bS), (1, .ref (h_t 0)), (2, .ref (h_m 0)), (3, .int y3)] []) : ∀ (w_t : Pk) (w_w : Pk) (w_b : Pk) (w_l : Pk) (w_H : Pk) (w_k0 : Pk) (w_k1 : Pk) (w_k2 : Pk) (w_k3 : Pk) (w_k4 : Pk) (w_k5 : Pk) (w_k6 : Pk) (w_k7 : Pk) (w_x : Pk) (w_T : Pk) (w_L : Pk) (w_P : Pk) (w_C : Pk) (w_M : Pk) (w_Q : Pk) (w_d : Pk) (w_F : Pk) (w_G : Pk) (w_r : Pk) (w_n : Pk) (w_m : Pk) (y3 : Int32), fL_b666 L xs rec18 w_t w_w w_b w_l w_H w_k0 w_k1 w_k2 w_k3 w_k4 w_k5 w_k6 w_k7 w_x w_T w_L w_P w_C w_M w_Q w_d w_F w_G w_r w_n w_m y3 = some 1 → BK X 8 177 15831 666 ([nX9 cI cZ cQ h_t (h_w 0) (h_b 0) (h_l 0) (h_H 0) (h_x 0) (h_T 0) (h_C 0) (h_d 0) (h_F 0) (h_r 0) (h_n 0) w_t, nX8 cI cZ cQ h_w w_w, nX8 cI cZ cQ h_b w_b, nX8 cI cZ cQ h_l w_l, nX2 cI cZ cQ h_H (hkf h_k0 h_k1 h_k2 h_k3 h_k4 h_k5 h_k6 h_k7) w_H, nX8 cI cZ cQ h_k0 w_k0, nX8 cI cZ cQ h_k1 w_k1, nX8 cI cZ cQ h_k2 w_k2, nX8 cI cZ cQ h_k3 w_k3, nX8 cI cZ cQ h_k4 w_k4, nX8 cI cZ cQ h_k5 w_k5, nX8 cI cZ cQ h_k6 w_k6, nX8 cI cZ cQ h_k7 w_k7, nX7 cI cZ cQ h_x w_x, nX6 cI cZ cQ h_T (h_w 0) (h_L 0) (h_P 0) w_T, nX4 cI cZ cQ h_L (h_w 0) w_L, nX4 cI cZ cQ h_P (h_w 0) w_P, nX6 cI cZ cQ h_C (h_w 0) (h_M 0) (h_Q 0) w_C, nX4 cI cZ cQ h_M (h_w 0) w_M, nX4 cI cZ cQ h_Q (h_w 0) w_Q, nX0 cI cZ cQ h_d (h_w 0) (h_T 0) w_d, nX1 cI cZ cQ h_F (h_G 0) w_F, nX4 cI cZ cQ h_G (h_w 0) w_G, nX5 cI cZ cQ h_r (h_w 0) w_r, nX3 cI cZ cQ h_n (h_w 0) w_n, nX10 cI cZ cQ h_m w_m]) [(0, .ref bS), (1, .ref (h_t 0)), (2, .ref (h_m 0)), (3, .int y3)] [] := by
  intro w_t w_w w_b w_l w_H w_k0 w_k1 w_k2 w_k3 w_k4 w_k5 w_k6 w_k7 w_x w_T w_L w_P w_C w_M w_Q w_d w_F w_G w_r w_n w_m y3 hf
  unfold fL_b666 at hf
  refine r_ald_n O 667 rfl 1 rfl dL_law_666 ?_
  refine r_ald_n O 668 rfl 0 rfl dL_law_667 ?_
  refine r_ild_n O 669 rfl 3 rfl dL_law_668 ?_
  refine r_ic O 670 rfl 1 (by decide) dL_law_669 ?_
  refine r_iadd O 671 rfl dL_law_670 ?_
  obtain ⟨x671, ex671, hin671, hf⟩ := qld_some hf
  refine r_sld O S 672 rfl hin671 dL_law_671 ?_
  rw [← ex671]
  obtain ⟨x672, p672_t, p672_b, p672_T, p672_L, p672_P, hq672, hf⟩ := qb6_some hf
  refine k_VI O 675 rfl (zX9_nodeWall (l := xl X) (D := xD X) (cI := cI) (cZ := cZ) (cQ := cQ) (h_t := h_t) (h_w := h_w) (h_b := h_b) (r_l := (h_l 0)) (r_H := (h_H 0)) (r_x := (h_x 0)) (h_T := h_T) (h_L := h_L) (h_P := h_P) (r_C := (h_C 0)) (r_d := (h_d 0)) (r_F := (h_F 0)) (r_r := (h_r 0)) (r_n := (h_n 0)) hq672) (gV mlL_90 mvX9_nodeWall izX9) rfl rfl rfl hdX9_nodeWall ⟨Nat.le_of_ble_eq_true rfl, Nat.le_of_ble_eq_true rfl⟩ rfl 0 rfl rfl rfl rfl (Nat.le_of_ble_eq_true rfl) ⟨Nat.le_of_ble_eq_true rfl, Nat.le_of_ble_eq_true rfl⟩ [0, 1, 2, 14, 15, 16] rfl rfl rfl ([nX9 cI cZ cQ h_t (h_w 0) (h_b 0) (h_l 0) (h_H 0) (h_x 0) (h_T 0) (h_C 0) (h_d 0) (h_F 0) (h_r 0) (h_n 0) p672_t, nX8 cI cZ cQ h_w w_w, nX8 cI cZ cQ h_b p672_b, nX8 cI cZ cQ h_l w_l, nX2 cI cZ cQ h_H (hkf h_k0 h_k1 h_k2 h_k3 h_k4 h_k5 h_k6 h_k7) w_H, nX8 cI cZ cQ h_k0 w_k0, nX8 cI cZ cQ h_k1 w_k1, nX8 cI cZ cQ h_k2 w_k2, nX8 cI cZ cQ h_k3 w_k3, nX8 cI cZ cQ h_k4 w_k4, nX8 cI cZ cQ h_k5 w_k5, nX8 cI cZ cQ h_k6 w_k6, nX8 cI cZ cQ h_k7 w_k7, nX7 cI cZ cQ h_x w_x, nX6 cI cZ cQ h_T (h_w 0) (h_L 0) (h_P 0) p672_T, nX4 cI cZ cQ h_L (h_w 0) p672_L, nX4 cI cZ cQ h_P (h_w 0) p672_P, nX6 cI cZ cQ h_C (h_w 0) (h_M 0) (h_Q 0) w_C, nX4 cI cZ cQ h_M (h_w 0) w_M, nX4 cI cZ cQ h_Q (h_w 0) w_Q, nX0 cI cZ cQ h_d (h_w 0) (h_T 0) w_d, nX1 cI cZ cQ h_F (h_G 0) w_F, nX4 cI cZ cQ h_G (h_w 0) w_G, nX5 cI cZ cQ h_r (h_w 0) w_r, nX3 cI cZ cQ h_n (h_w 0) w_n, nX10 cI cZ cQ h_m w_m]) rfl dL_law_672 ?_
  refine r_ald_n O 676 rfl 2 rfl dL_law_675 ?_
  refine r_ald_n O 677 rfl 0 rfl dL_law_676 ?_
  refine r_ild_n O 678 rfl 3 rfl dL_law_677 ?_
  refine r_ic O 679 rfl 1 (by decide) dL_law_678 ?_
  refine r_iadd O 680 rfl dL_law_679 ?_
  obtain ⟨x680, ex680, hin680, hf⟩ := qld_some hf
  refine r_sld O S 681 rfl hin680 dL_law_680 ?_
  rw [← ex680]
  obtain ⟨x681, p681_m, hq681, hf⟩ := qb2_some hf
  refine k_VI O 684 rfl (zX10_nodeWall (l := xl X) (D := xD X) (cI := cI) (cZ := cZ) (cQ := cQ) (h_t := h_m) hq681) (gV mlL_93 mvX10_nodeWall izX10) rfl rfl rfl hdX10_nodeWall ⟨Nat.le_of_ble_eq_true rfl, Nat.le_of_ble_eq_true rfl⟩ rfl 25 rfl rfl rfl rfl (Nat.le_of_ble_eq_true rfl) ⟨Nat.le_of_ble_eq_true rfl, Nat.le_of_ble_eq_true rfl⟩ [25] rfl rfl rfl ([nX9 cI cZ cQ h_t (h_w 0) (h_b 0) (h_l 0) (h_H 0) (h_x 0) (h_T 0) (h_C 0) (h_d 0) (h_F 0) (h_r 0) (h_n 0) p672_t, nX8 cI cZ cQ h_w w_w, nX8 cI cZ cQ h_b p672_b, nX8 cI cZ cQ h_l w_l, nX2 cI cZ cQ h_H (hkf h_k0 h_k1 h_k2 h_k3 h_k4 h_k5 h_k6 h_k7) w_H, nX8 cI cZ cQ h_k0 w_k0, nX8 cI cZ cQ h_k1 w_k1, nX8 cI cZ cQ h_k2 w_k2, nX8 cI cZ cQ h_k3 w_k3, nX8 cI cZ cQ h_k4 w_k4, nX8 cI cZ cQ h_k5 w_k5, nX8 cI cZ cQ h_k6 w_k6, nX8 cI cZ cQ h_k7 w_k7, nX7 cI cZ cQ h_x w_x, nX6 cI cZ cQ h_T (h_w 0) (h_L 0) (h_P 0) p672_T, nX4 cI cZ cQ h_L (h_w 0) p672_L, nX4 cI cZ cQ h_P (h_w 0) p672_P, nX6 cI cZ cQ h_C (h_w 0) (h_M 0) (h_Q 0) w_C, nX4 cI cZ cQ h_M (h_w 0) w_M, nX4 cI cZ cQ h_Q (h_w 0) w_Q, nX0 cI cZ cQ h_d (h_w 0) (h_T 0) w_d, nX1 cI cZ cQ h_F (h_G 0) w_F, nX4 cI cZ cQ h_G (h_w 0) w_G, nX5 cI cZ cQ h_r (h_w 0) w_r, nX3 cI cZ cQ h_n (h_w 0) w_n, nX10 cI cZ cQ h_m p681_m]) rfl dL_law_681 ?_
  refine r_icmp_eq O 687 rfl 1795 dL_law_684 (by decide) (fun hc684 => ?_) (fun hc684 => ?_)
  · rw [if_pos hc684] at hf
    exact lwB1795 O S E rec18 hrec18 _ _ _ _ _ _ _ _ _ _ _ _ _ _ _ _ _ _ _ _ _ _ _ _ _ _ _ hf
  · rw [if_neg hc684] at hf
    refine r_ic O 688 rfl 0 (by decide) dL_law_687 ?_
    exact absurd (qe1 hf) (by decide)
set_option maxHeartbeats 40000000 in
set_option maxRecDepth 100000 in
theorem lwB1051 {X : Cx} {cI cZ cQ : ClassId} {bS L : Nat} {xs : Nat → Int32} (O : OK X cL_law 8 RL wB room_1 cI cZ cQ) (S : SX X bS L xs) (E : ∀ {pc : Nat} {ws : List va_W} {lv : List (Nat × Value)}, decode cL_law pc = .ok (.ireturn, 1) → BK X 8 177 15831 pc ws lv [.int 1]) {h_t h_w h_b h_l h_H h_k0 h_k1 h_k2 h_k3 h_k4 h_k5 h_k6 h_k7 h_x h_T h_L h_P h_C h_M h_Q h_d h_F h_G h_r h_n h_m : Nat → Nat} (rec18 : Pk → Pk → Pk → Pk → Pk → Pk → Pk → Pk → Pk → Pk → Pk → Pk → Pk → Pk → Pk → Pk → Pk → Pk → Pk → Pk → Pk → Pk → Pk → Pk → Pk → Pk → Int32 → Option Int32) (hrec18 : ∀ (w_t : Pk) (w_w : Pk) (w_b : Pk) (w_l : Pk) (w_H : Pk) (w_k0 : Pk) (w_k1 : Pk) (w_k2 : Pk) (w_k3 : Pk) (w_k4 : Pk) (w_k5 : Pk) (w_k6 : Pk) (w_k7 : Pk) (w_x : Pk) (w_T : Pk) (w_L : Pk) (w_P : Pk) (w_C : Pk) (w_M : Pk) (w_Q : Pk) (w_d : Pk) (w_F : Pk) (w_G : Pk) (w_r : Pk) (w_n : Pk) (w_m : Pk) (y3 : Int32), rec18 w_t w_w w_b w_l w_H w_k0 w_k1 w_k2 w_k3 w_k4 w_k5 w_k6 w_k7 w_x w_T w_L w_P w_C w_M w_Q w_d w_F w_G w_r w_n w_m y3 = some 1 → BK X 8 177 15831 18 ([nX9 cI cZ cQ h_t (h_w 0) (h_b 0) (h_l 0) (h_H 0) (h_x 0) (h_T 0) (h_C 0) (h_d 0) (h_F 0) (h_r 0) (h_n 0) w_t, nX8 cI cZ cQ h_w w_w, nX8 cI cZ cQ h_b w_b, nX8 cI cZ cQ h_l w_l, nX2 cI cZ cQ h_H (hkf h_k0 h_k1 h_k2 h_k3 h_k4 h_k5 h_k6 h_k7) w_H, nX8 cI cZ cQ h_k0 w_k0, nX8 cI cZ cQ h_k1 w_k1, nX8 cI cZ cQ h_k2 w_k2, nX8 cI cZ cQ h_k3 w_k3, nX8 cI cZ cQ h_k4 w_k4, nX8 cI cZ cQ h_k5 w_k5, nX8 cI cZ cQ h_k6 w_k6, nX8 cI cZ cQ h_k7 w_k7, nX7 cI cZ cQ h_x w_x, nX6 cI cZ cQ h_T (h_w 0) (h_L 0) (h_P 0) w_T, nX4 cI cZ cQ h_L (h_w 0) w_L, nX4 cI cZ cQ h_P (h_w 0) w_P, nX6 cI cZ cQ h_C (h_w 0) (h_M 0) (h_Q 0) w_C, nX4 cI cZ cQ h_M (h_w 0) w_M, nX4 cI cZ cQ h_Q (h_w 0) w_Q, nX0 cI cZ cQ h_d (h_w 0) (h_T 0) w_d, nX1 cI cZ cQ h_F (h_G 0) w_F, nX4 cI cZ cQ h_G (h_w 0) w_G, nX5 cI cZ cQ h_r (h_w 0) w_r, nX3 cI cZ cQ h_n (h_w 0) w_n, nX10 cI cZ cQ h_m w_m]) [(0, .ref bS), (1, .ref (h_t 0)), (2, .ref (h_m 0)), (3, .int y3)] []) : ∀ (w_t : Pk) (w_w : Pk) (w_b : Pk) (w_l : Pk) (w_H : Pk) (w_k0 : Pk) (w_k1 : Pk) (w_k2 : Pk) (w_k3 : Pk) (w_k4 : Pk) (w_k5 : Pk) (w_k6 : Pk) (w_k7 : Pk) (w_x : Pk) (w_T : Pk) (w_L : Pk) (w_P : Pk) (w_C : Pk) (w_M : Pk) (w_Q : Pk) (w_d : Pk) (w_F : Pk) (w_G : Pk) (w_r : Pk) (w_n : Pk) (w_m : Pk) (y3 : Int32), fL_b1051 L xs rec18 w_t w_w w_b w_l w_H w_k0 w_k1 w_k2 w_k3 w_k4 w_k5 w_k6 w_k7 w_x w_T w_L w_P w_C w_M w_Q w_d w_F w_G w_r w_n w_m y3 = some 1 → BK X 8 177 15831 1051 ([nX9 cI cZ cQ h_t (h_w 0) (h_b 0) (h_l 0) (h_H 0) (h_x 0) (h_T 0) (h_C 0) (h_d 0) (h_F 0) (h_r 0) (h_n 0) w_t, nX8 cI cZ cQ h_w w_w, nX8 cI cZ cQ h_b w_b, nX8 cI cZ cQ h_l w_l, nX2 cI cZ cQ h_H (hkf h_k0 h_k1 h_k2 h_k3 h_k4 h_k5 h_k6 h_k7) w_H, nX8 cI cZ cQ h_k0 w_k0, nX8 cI cZ cQ h_k1 w_k1, nX8 cI cZ cQ h_k2 w_k2, nX8 cI cZ cQ h_k3 w_k3, nX8 cI cZ cQ h_k4 w_k4, nX8 cI cZ cQ h_k5 w_k5, nX8 cI cZ cQ h_k6 w_k6, nX8 cI cZ cQ h_k7 w_k7, nX7 cI cZ cQ h_x w_x, nX6 cI cZ cQ h_T (h_w 0) (h_L 0) (h_P 0) w_T, nX4 cI cZ cQ h_L (h_w 0) w_L, nX4 cI cZ cQ h_P (h_w 0) w_P, nX6 cI cZ cQ h_C (h_w 0) (h_M 0) (h_Q 0) w_C, nX4 cI cZ cQ h_M (h_w 0) w_M, nX4 cI cZ cQ h_Q (h_w 0) w_Q, nX0 cI cZ cQ h_d (h_w 0) (h_T 0) w_d, nX1 cI cZ cQ h_F (h_G 0) w_F, nX4 cI cZ cQ h_G (h_w 0) w_G, nX5 cI cZ cQ h_r (h_w 0) w_r, nX3 cI cZ cQ h_n (h_w 0) w_n, nX10 cI cZ cQ h_m w_m]) [(0, .ref bS), (1, .ref (h_t 0)), (2, .ref (h_m 0)), (3, .int y3)] [] := by
  intro w_t w_w w_b w_l w_H w_k0 w_k1 w_k2 w_k3 w_k4 w_k5 w_k6 w_k7 w_x w_T w_L w_P w_C w_M w_Q w_d w_F w_G w_r w_n w_m y3 hf
  unfold fL_b1051 at hf
  refine r_ald_n O 1052 rfl 1 rfl dL_law_1051 ?_
  refine r_ald_n O 1053 rfl 0 rfl dL_law_1052 ?_
  refine r_ild_n O 1054 rfl 3 rfl dL_law_1053 ?_
  refine r_ic O 1055 rfl 1 (by decide) dL_law_1054 ?_
  refine r_iadd O 1056 rfl dL_law_1055 ?_
  obtain ⟨x1056, ex1056, hin1056, hf⟩ := qld_some hf
  refine r_sld O S 1057 rfl hin1056 dL_law_1056 ?_
  rw [← ex1056]
  refine r_ald_n O 1058 rfl 0 rfl dL_law_1057 ?_
  refine r_ild_n O 1059 rfl 3 rfl dL_law_1058 ?_
  refine r_ic O 1060 rfl 2 (by decide) dL_law_1059 ?_
  refine r_iadd O 1061 rfl dL_law_1060 ?_
  obtain ⟨x1061, ex1061, hin1061, hf⟩ := qld_some hf
  refine r_sld O S 1062 rfl hin1061 dL_law_1061 ?_
  rw [← ex1061]
  refine r_ald_n O 1063 rfl 0 rfl dL_law_1062 ?_
  refine r_ild_n O 1064 rfl 3 rfl dL_law_1063 ?_
  refine r_ic O 1065 rfl 3 (by decide) dL_law_1064 ?_
  refine r_iadd O 1066 rfl dL_law_1065 ?_
  obtain ⟨x1066, ex1066, hin1066, hf⟩ := qld_some hf
  refine r_sld O S 1067 rfl hin1066 dL_law_1066 ?_
  rw [← ex1066]
  refine r_ald_n O 1068 rfl 0 rfl dL_law_1067 ?_
  refine r_ild_n O 1069 rfl 3 rfl dL_law_1068 ?_
  refine r_ic O 1070 rfl 4 (by decide) dL_law_1069 ?_
  refine r_iadd O 1071 rfl dL_law_1070 ?_
  obtain ⟨x1071, ex1071, hin1071, hf⟩ := qld_some hf
  refine r_sld O S 1072 rfl hin1071 dL_law_1071 ?_
  rw [← ex1071]
  obtain ⟨x1072, p1072_t, p1072_b, p1072_T, p1072_L, p1072_P, p1072_d, p1072_r, hq1072, hf⟩ := qb8_some hf
  refine k_VI O 1075 rfl (zX9_paintCount (l := xl X) (D := xD X) (cI := cI) (cZ := cZ) (cQ := cQ) (h_t := h_t) (h_w := h_w) (h_b := h_b) (r_l := (h_l 0)) (r_H := (h_H 0)) (r_x := (h_x 0)) (h_T := h_T) (h_L := h_L) (h_P := h_P) (r_C := (h_C 0)) (h_d := h_d) (r_F := (h_F 0)) (h_r := h_r) (r_n := (h_n 0)) hq1072) (gV mlL_144 mvX9_paintCount izX9) rfl rfl rfl hdX9_paintCount ⟨Nat.le_of_ble_eq_true rfl, Nat.le_of_ble_eq_true rfl⟩ rfl 0 rfl rfl rfl rfl (Nat.le_of_ble_eq_true rfl) ⟨Nat.le_of_ble_eq_true rfl, Nat.le_of_ble_eq_true rfl⟩ [0, 1, 2, 14, 15, 16, 20, 23] rfl rfl rfl ([nX9 cI cZ cQ h_t (h_w 0) (h_b 0) (h_l 0) (h_H 0) (h_x 0) (h_T 0) (h_C 0) (h_d 0) (h_F 0) (h_r 0) (h_n 0) p1072_t, nX8 cI cZ cQ h_w w_w, nX8 cI cZ cQ h_b p1072_b, nX8 cI cZ cQ h_l w_l, nX2 cI cZ cQ h_H (hkf h_k0 h_k1 h_k2 h_k3 h_k4 h_k5 h_k6 h_k7) w_H, nX8 cI cZ cQ h_k0 w_k0, nX8 cI cZ cQ h_k1 w_k1, nX8 cI cZ cQ h_k2 w_k2, nX8 cI cZ cQ h_k3 w_k3, nX8 cI cZ cQ h_k4 w_k4, nX8 cI cZ cQ h_k5 w_k5, nX8 cI cZ cQ h_k6 w_k6, nX8 cI cZ cQ h_k7 w_k7, nX7 cI cZ cQ h_x w_x, nX6 cI cZ cQ h_T (h_w 0) (h_L 0) (h_P 0) p1072_T, nX4 cI cZ cQ h_L (h_w 0) p1072_L, nX4 cI cZ cQ h_P (h_w 0) p1072_P, nX6 cI cZ cQ h_C (h_w 0) (h_M 0) (h_Q 0) w_C, nX4 cI cZ cQ h_M (h_w 0) w_M, nX4 cI cZ cQ h_Q (h_w 0) w_Q, nX0 cI cZ cQ h_d (h_w 0) (h_T 0) p1072_d, nX1 cI cZ cQ h_F (h_G 0) w_F, nX4 cI cZ cQ h_G (h_w 0) w_G, nX5 cI cZ cQ h_r (h_w 0) p1072_r, nX3 cI cZ cQ h_n (h_w 0) w_n, nX10 cI cZ cQ h_m w_m]) rfl dL_law_1072 ?_
  refine r_ald_n O 1076 rfl 2 rfl dL_law_1075 ?_
  refine r_ald_n O 1077 rfl 0 rfl dL_law_1076 ?_
  refine r_ild_n O 1078 rfl 3 rfl dL_law_1077 ?_
  refine r_ic O 1079 rfl 1 (by decide) dL_law_1078 ?_
  refine r_iadd O 1080 rfl dL_law_1079 ?_
  obtain ⟨x1080, ex1080, hin1080, hf⟩ := qld_some hf
  refine r_sld O S 1081 rfl hin1080 dL_law_1080 ?_
  rw [← ex1080]
  refine r_ald_n O 1082 rfl 0 rfl dL_law_1081 ?_
  refine r_ild_n O 1083 rfl 3 rfl dL_law_1082 ?_
  refine r_ic O 1084 rfl 2 (by decide) dL_law_1083 ?_
  refine r_iadd O 1085 rfl dL_law_1084 ?_
  obtain ⟨x1085, ex1085, hin1085, hf⟩ := qld_some hf
  refine r_sld O S 1086 rfl hin1085 dL_law_1085 ?_
  rw [← ex1085]
  refine r_ald_n O 1087 rfl 0 rfl dL_law_1086 ?_
  refine r_ild_n O 1088 rfl 3 rfl dL_law_1087 ?_
  refine r_ic O 1089 rfl 3 (by decide) dL_law_1088 ?_
  refine r_iadd O 1090 rfl dL_law_1089 ?_
  obtain ⟨x1090, ex1090, hin1090, hf⟩ := qld_some hf
  refine r_sld O S 1091 rfl hin1090 dL_law_1090 ?_
  rw [← ex1090]
  refine r_ald_n O 1092 rfl 0 rfl dL_law_1091 ?_
  refine r_ild_n O 1093 rfl 3 rfl dL_law_1092 ?_
  refine r_ic O 1094 rfl 4 (by decide) dL_law_1093 ?_
  refine r_iadd O 1095 rfl dL_law_1094 ?_
  obtain ⟨x1095, ex1095, hin1095, hf⟩ := qld_some hf
  refine r_sld O S 1096 rfl hin1095 dL_law_1095 ?_
  rw [← ex1095]
  obtain ⟨x1096, p1096_m, hq1096, hf⟩ := qb2_some hf
  refine k_VI O 1099 rfl (zX10_paintCount (l := xl X) (D := xD X) (cI := cI) (cZ := cZ) (cQ := cQ) (h_t := h_m) hq1096) (gV mlL_148 mvX10_paintCount izX10) rfl rfl rfl hdX10_paintCount ⟨Nat.le_of_ble_eq_true rfl, Nat.le_of_ble_eq_true rfl⟩ rfl 25 rfl rfl rfl rfl (Nat.le_of_ble_eq_true rfl) ⟨Nat.le_of_ble_eq_true rfl, Nat.le_of_ble_eq_true rfl⟩ [25] rfl rfl rfl ([nX9 cI cZ cQ h_t (h_w 0) (h_b 0) (h_l 0) (h_H 0) (h_x 0) (h_T 0) (h_C 0) (h_d 0) (h_F 0) (h_r 0) (h_n 0) p1072_t, nX8 cI cZ cQ h_w w_w, nX8 cI cZ cQ h_b p1072_b, nX8 cI cZ cQ h_l w_l, nX2 cI cZ cQ h_H (hkf h_k0 h_k1 h_k2 h_k3 h_k4 h_k5 h_k6 h_k7) w_H, nX8 cI cZ cQ h_k0 w_k0, nX8 cI cZ cQ h_k1 w_k1, nX8 cI cZ cQ h_k2 w_k2, nX8 cI cZ cQ h_k3 w_k3, nX8 cI cZ cQ h_k4 w_k4, nX8 cI cZ cQ h_k5 w_k5, nX8 cI cZ cQ h_k6 w_k6, nX8 cI cZ cQ h_k7 w_k7, nX7 cI cZ cQ h_x w_x, nX6 cI cZ cQ h_T (h_w 0) (h_L 0) (h_P 0) p1072_T, nX4 cI cZ cQ h_L (h_w 0) p1072_L, nX4 cI cZ cQ h_P (h_w 0) p1072_P, nX6 cI cZ cQ h_C (h_w 0) (h_M 0) (h_Q 0) w_C, nX4 cI cZ cQ h_M (h_w 0) w_M, nX4 cI cZ cQ h_Q (h_w 0) w_Q, nX0 cI cZ cQ h_d (h_w 0) (h_T 0) p1072_d, nX1 cI cZ cQ h_F (h_G 0) w_F, nX4 cI cZ cQ h_G (h_w 0) w_G, nX5 cI cZ cQ h_r (h_w 0) p1072_r, nX3 cI cZ cQ h_n (h_w 0) w_n, nX10 cI cZ cQ h_m p1096_m]) rfl dL_law_1096 ?_
  refine r_icmp_eq O 1102 rfl 1795 dL_law_1099 (by decide) (fun hc1099 => ?_) (fun hc1099 => ?_)
  · rw [if_pos hc1099] at hf
    exact lwB1795 O S E rec18 hrec18 _ _ _ _ _ _ _ _ _ _ _ _ _ _ _ _ _ _ _ _ _ _ _ _ _ _ _ hf
  · rw [if_neg hc1099] at hf
    refine r_ic O 1103 rfl 0 (by decide) dL_law_1102 ?_
    exact absurd (qe1 hf) (by decide)
set_option maxHeartbeats 40000000 in
set_option maxRecDepth 100000 in
theorem lwB804 {X : Cx} {cI cZ cQ : ClassId} {bS L : Nat} {xs : Nat → Int32} (O : OK X cL_law 8 RL wB room_1 cI cZ cQ) (S : SX X bS L xs) (E : ∀ {pc : Nat} {ws : List va_W} {lv : List (Nat × Value)}, decode cL_law pc = .ok (.ireturn, 1) → BK X 8 177 15831 pc ws lv [.int 1]) {h_t h_w h_b h_l h_H h_k0 h_k1 h_k2 h_k3 h_k4 h_k5 h_k6 h_k7 h_x h_T h_L h_P h_C h_M h_Q h_d h_F h_G h_r h_n h_m : Nat → Nat} (rec18 : Pk → Pk → Pk → Pk → Pk → Pk → Pk → Pk → Pk → Pk → Pk → Pk → Pk → Pk → Pk → Pk → Pk → Pk → Pk → Pk → Pk → Pk → Pk → Pk → Pk → Pk → Int32 → Option Int32) (hrec18 : ∀ (w_t : Pk) (w_w : Pk) (w_b : Pk) (w_l : Pk) (w_H : Pk) (w_k0 : Pk) (w_k1 : Pk) (w_k2 : Pk) (w_k3 : Pk) (w_k4 : Pk) (w_k5 : Pk) (w_k6 : Pk) (w_k7 : Pk) (w_x : Pk) (w_T : Pk) (w_L : Pk) (w_P : Pk) (w_C : Pk) (w_M : Pk) (w_Q : Pk) (w_d : Pk) (w_F : Pk) (w_G : Pk) (w_r : Pk) (w_n : Pk) (w_m : Pk) (y3 : Int32), rec18 w_t w_w w_b w_l w_H w_k0 w_k1 w_k2 w_k3 w_k4 w_k5 w_k6 w_k7 w_x w_T w_L w_P w_C w_M w_Q w_d w_F w_G w_r w_n w_m y3 = some 1 → BK X 8 177 15831 18 ([nX9 cI cZ cQ h_t (h_w 0) (h_b 0) (h_l 0) (h_H 0) (h_x 0) (h_T 0) (h_C 0) (h_d 0) (h_F 0) (h_r 0) (h_n 0) w_t, nX8 cI cZ cQ h_w w_w, nX8 cI cZ cQ h_b w_b, nX8 cI cZ cQ h_l w_l, nX2 cI cZ cQ h_H (hkf h_k0 h_k1 h_k2 h_k3 h_k4 h_k5 h_k6 h_k7) w_H, nX8 cI cZ cQ h_k0 w_k0, nX8 cI cZ cQ h_k1 w_k1, nX8 cI cZ cQ h_k2 w_k2, nX8 cI cZ cQ h_k3 w_k3, nX8 cI cZ cQ h_k4 w_k4, nX8 cI cZ cQ h_k5 w_k5, nX8 cI cZ cQ h_k6 w_k6, nX8 cI cZ cQ h_k7 w_k7, nX7 cI cZ cQ h_x w_x, nX6 cI cZ cQ h_T (h_w 0) (h_L 0) (h_P 0) w_T, nX4 cI cZ cQ h_L (h_w 0) w_L, nX4 cI cZ cQ h_P (h_w 0) w_P, nX6 cI cZ cQ h_C (h_w 0) (h_M 0) (h_Q 0) w_C, nX4 cI cZ cQ h_M (h_w 0) w_M, nX4 cI cZ cQ h_Q (h_w 0) w_Q, nX0 cI cZ cQ h_d (h_w 0) (h_T 0) w_d, nX1 cI cZ cQ h_F (h_G 0) w_F, nX4 cI cZ cQ h_G (h_w 0) w_G, nX5 cI cZ cQ h_r (h_w 0) w_r, nX3 cI cZ cQ h_n (h_w 0) w_n, nX10 cI cZ cQ h_m w_m]) [(0, .ref bS), (1, .ref (h_t 0)), (2, .ref (h_m 0)), (3, .int y3)] []) : ∀ (w_t : Pk) (w_w : Pk) (w_b : Pk) (w_l : Pk) (w_H : Pk) (w_k0 : Pk) (w_k1 : Pk) (w_k2 : Pk) (w_k3 : Pk) (w_k4 : Pk) (w_k5 : Pk) (w_k6 : Pk) (w_k7 : Pk) (w_x : Pk) (w_T : Pk) (w_L : Pk) (w_P : Pk) (w_C : Pk) (w_M : Pk) (w_Q : Pk) (w_d : Pk) (w_F : Pk) (w_G : Pk) (w_r : Pk) (w_n : Pk) (w_m : Pk) (y3 : Int32), fL_b804 L xs rec18 w_t w_w w_b w_l w_H w_k0 w_k1 w_k2 w_k3 w_k4 w_k5 w_k6 w_k7 w_x w_T w_L w_P w_C w_M w_Q w_d w_F w_G w_r w_n w_m y3 = some 1 → BK X 8 177 15831 804 ([nX9 cI cZ cQ h_t (h_w 0) (h_b 0) (h_l 0) (h_H 0) (h_x 0) (h_T 0) (h_C 0) (h_d 0) (h_F 0) (h_r 0) (h_n 0) w_t, nX8 cI cZ cQ h_w w_w, nX8 cI cZ cQ h_b w_b, nX8 cI cZ cQ h_l w_l, nX2 cI cZ cQ h_H (hkf h_k0 h_k1 h_k2 h_k3 h_k4 h_k5 h_k6 h_k7) w_H, nX8 cI cZ cQ h_k0 w_k0, nX8 cI cZ cQ h_k1 w_k1, nX8 cI cZ cQ h_k2 w_k2, nX8 cI cZ cQ h_k3 w_k3, nX8 cI cZ cQ h_k4 w_k4, nX8 cI cZ cQ h_k5 w_k5, nX8 cI cZ cQ h_k6 w_k6, nX8 cI cZ cQ h_k7 w_k7, nX7 cI cZ cQ h_x w_x, nX6 cI cZ cQ h_T (h_w 0) (h_L 0) (h_P 0) w_T, nX4 cI cZ cQ h_L (h_w 0) w_L, nX4 cI cZ cQ h_P (h_w 0) w_P, nX6 cI cZ cQ h_C (h_w 0) (h_M 0) (h_Q 0) w_C, nX4 cI cZ cQ h_M (h_w 0) w_M, nX4 cI cZ cQ h_Q (h_w 0) w_Q, nX0 cI cZ cQ h_d (h_w 0) (h_T 0) w_d, nX1 cI cZ cQ h_F (h_G 0) w_F, nX4 cI cZ cQ h_G (h_w 0) w_G, nX5 cI cZ cQ h_r (h_w 0) w_r, nX3 cI cZ cQ h_n (h_w 0) w_n, nX10 cI cZ cQ h_m w_m]) [(0, .ref bS), (1, .ref (h_t 0)), (2, .ref (h_m 0)), (3, .int y3)] [] := by
  intro w_t w_w w_b w_l w_H w_k0 w_k1 w_k2 w_k3 w_k4 w_k5 w_k6 w_k7 w_x w_T w_L w_P w_C w_M w_Q w_d w_F w_G w_r w_n w_m y3 hf
  unfold fL_b804 at hf
  refine r_ald_n O 805 rfl 1 rfl dL_law_804 ?_
  refine r_ald_n O 806 rfl 0 rfl dL_law_805 ?_
  refine r_ild_n O 807 rfl 3 rfl dL_law_806 ?_
  refine r_ic O 808 rfl 1 (by decide) dL_law_807 ?_
  refine r_iadd O 809 rfl dL_law_808 ?_
  obtain ⟨x809, ex809, hin809, hf⟩ := qld_some hf
  refine r_sld O S 810 rfl hin809 dL_law_809 ?_
  rw [← ex809]
  refine r_ald_n O 811 rfl 0 rfl dL_law_810 ?_
  refine r_ild_n O 812 rfl 3 rfl dL_law_811 ?_
  refine r_ic O 813 rfl 2 (by decide) dL_law_812 ?_
  refine r_iadd O 814 rfl dL_law_813 ?_
  obtain ⟨x814, ex814, hin814, hf⟩ := qld_some hf
  refine r_sld O S 815 rfl hin814 dL_law_814 ?_
  rw [← ex814]
  obtain ⟨x815, p815_t, p815_b, p815_T, p815_L, p815_P, hq815, hf⟩ := qb6_some hf
  refine k_VI O 818 rfl (zX9_pieceBound (l := xl X) (D := xD X) (cI := cI) (cZ := cZ) (cQ := cQ) (h_t := h_t) (h_w := h_w) (h_b := h_b) (r_l := (h_l 0)) (r_H := (h_H 0)) (r_x := (h_x 0)) (h_T := h_T) (h_L := h_L) (h_P := h_P) (r_C := (h_C 0)) (r_d := (h_d 0)) (r_F := (h_F 0)) (r_r := (h_r 0)) (r_n := (h_n 0)) hq815) (gV mlL_114 mvX9_pieceBound izX9) rfl rfl rfl hdX9_pieceBound ⟨Nat.le_of_ble_eq_true rfl, Nat.le_of_ble_eq_true rfl⟩ rfl 0 rfl rfl rfl rfl (Nat.le_of_ble_eq_true rfl) ⟨Nat.le_of_ble_eq_true rfl, Nat.le_of_ble_eq_true rfl⟩ [0, 1, 2, 14, 15, 16] rfl rfl rfl ([nX9 cI cZ cQ h_t (h_w 0) (h_b 0) (h_l 0) (h_H 0) (h_x 0) (h_T 0) (h_C 0) (h_d 0) (h_F 0) (h_r 0) (h_n 0) p815_t, nX8 cI cZ cQ h_w w_w, nX8 cI cZ cQ h_b p815_b, nX8 cI cZ cQ h_l w_l, nX2 cI cZ cQ h_H (hkf h_k0 h_k1 h_k2 h_k3 h_k4 h_k5 h_k6 h_k7) w_H, nX8 cI cZ cQ h_k0 w_k0, nX8 cI cZ cQ h_k1 w_k1, nX8 cI cZ cQ h_k2 w_k2, nX8 cI cZ cQ h_k3 w_k3, nX8 cI cZ cQ h_k4 w_k4, nX8 cI cZ cQ h_k5 w_k5, nX8 cI cZ cQ h_k6 w_k6, nX8 cI cZ cQ h_k7 w_k7, nX7 cI cZ cQ h_x w_x, nX6 cI cZ cQ h_T (h_w 0) (h_L 0) (h_P 0) p815_T, nX4 cI cZ cQ h_L (h_w 0) p815_L, nX4 cI cZ cQ h_P (h_w 0) p815_P, nX6 cI cZ cQ h_C (h_w 0) (h_M 0) (h_Q 0) w_C, nX4 cI cZ cQ h_M (h_w 0) w_M, nX4 cI cZ cQ h_Q (h_w 0) w_Q, nX0 cI cZ cQ h_d (h_w 0) (h_T 0) w_d, nX1 cI cZ cQ h_F (h_G 0) w_F, nX4 cI cZ cQ h_G (h_w 0) w_G, nX5 cI cZ cQ h_r (h_w 0) w_r, nX3 cI cZ cQ h_n (h_w 0) w_n, nX10 cI cZ cQ h_m w_m]) rfl dL_law_815 ?_
  refine r_ald_n O 819 rfl 2 rfl dL_law_818 ?_
  refine r_ald_n O 820 rfl 0 rfl dL_law_819 ?_
  refine r_ild_n O 821 rfl 3 rfl dL_law_820 ?_
  refine r_ic O 822 rfl 1 (by decide) dL_law_821 ?_
  refine r_iadd O 823 rfl dL_law_822 ?_
  obtain ⟨x823, ex823, hin823, hf⟩ := qld_some hf
  refine r_sld O S 824 rfl hin823 dL_law_823 ?_
  rw [← ex823]
  refine r_ald_n O 825 rfl 0 rfl dL_law_824 ?_
  refine r_ild_n O 826 rfl 3 rfl dL_law_825 ?_
  refine r_ic O 827 rfl 2 (by decide) dL_law_826 ?_
  refine r_iadd O 828 rfl dL_law_827 ?_
  obtain ⟨x828, ex828, hin828, hf⟩ := qld_some hf
  refine r_sld O S 829 rfl hin828 dL_law_828 ?_
  rw [← ex828]
  obtain ⟨x829, p829_m, hq829, hf⟩ := qb2_some hf
  refine k_VI O 832 rfl (zX10_pieceBound (l := xl X) (D := xD X) (cI := cI) (cZ := cZ) (cQ := cQ) (h_t := h_m) hq829) (gV mlL_117 mvX10_pieceBound izX10) rfl rfl rfl hdX10_pieceBound ⟨Nat.le_of_ble_eq_true rfl, Nat.le_of_ble_eq_true rfl⟩ rfl 25 rfl rfl rfl rfl (Nat.le_of_ble_eq_true rfl) ⟨Nat.le_of_ble_eq_true rfl, Nat.le_of_ble_eq_true rfl⟩ [25] rfl rfl rfl ([nX9 cI cZ cQ h_t (h_w 0) (h_b 0) (h_l 0) (h_H 0) (h_x 0) (h_T 0) (h_C 0) (h_d 0) (h_F 0) (h_r 0) (h_n 0) p815_t, nX8 cI cZ cQ h_w w_w, nX8 cI cZ cQ h_b p815_b, nX8 cI cZ cQ h_l w_l, nX2 cI cZ cQ h_H (hkf h_k0 h_k1 h_k2 h_k3 h_k4 h_k5 h_k6 h_k7) w_H, nX8 cI cZ cQ h_k0 w_k0, nX8 cI cZ cQ h_k1 w_k1, nX8 cI cZ cQ h_k2 w_k2, nX8 cI cZ cQ h_k3 w_k3, nX8 cI cZ cQ h_k4 w_k4, nX8 cI cZ cQ h_k5 w_k5, nX8 cI cZ cQ h_k6 w_k6, nX8 cI cZ cQ h_k7 w_k7, nX7 cI cZ cQ h_x w_x, nX6 cI cZ cQ h_T (h_w 0) (h_L 0) (h_P 0) p815_T, nX4 cI cZ cQ h_L (h_w 0) p815_L, nX4 cI cZ cQ h_P (h_w 0) p815_P, nX6 cI cZ cQ h_C (h_w 0) (h_M 0) (h_Q 0) w_C, nX4 cI cZ cQ h_M (h_w 0) w_M, nX4 cI cZ cQ h_Q (h_w 0) w_Q, nX0 cI cZ cQ h_d (h_w 0) (h_T 0) w_d, nX1 cI cZ cQ h_F (h_G 0) w_F, nX4 cI cZ cQ h_G (h_w 0) w_G, nX5 cI cZ cQ h_r (h_w 0) w_r, nX3 cI cZ cQ h_n (h_w 0) w_n, nX10 cI cZ cQ h_m p829_m]) rfl dL_law_829 ?_
  refine r_icmp_eq O 835 rfl 1795 dL_law_832 (by decide) (fun hc832 => ?_) (fun hc832 => ?_)
  · rw [if_pos hc832] at hf
    exact lwB1795 O S E rec18 hrec18 _ _ _ _ _ _ _ _ _ _ _ _ _ _ _ _ _ _ _ _ _ _ _ _ _ _ _ hf
  · rw [if_neg hc832] at hf
    refine r_ic O 836 rfl 0 (by decide) dL_law_835 ?_
    exact absurd (qe1 hf) (by decide)
set_option maxHeartbeats 40000000 in
set_option maxRecDepth 100000 in
theorem lwB552 {X : Cx} {cI cZ cQ : ClassId} {bS L : Nat} {xs : Nat → Int32} (O : OK X cL_law 8 RL wB room_1 cI cZ cQ) (S : SX X bS L xs) (E : ∀ {pc : Nat} {ws : List va_W} {lv : List (Nat × Value)}, decode cL_law pc = .ok (.ireturn, 1) → BK X 8 177 15831 pc ws lv [.int 1]) {h_t h_w h_b h_l h_H h_k0 h_k1 h_k2 h_k3 h_k4 h_k5 h_k6 h_k7 h_x h_T h_L h_P h_C h_M h_Q h_d h_F h_G h_r h_n h_m : Nat → Nat} (rec18 : Pk → Pk → Pk → Pk → Pk → Pk → Pk → Pk → Pk → Pk → Pk → Pk → Pk → Pk → Pk → Pk → Pk → Pk → Pk → Pk → Pk → Pk → Pk → Pk → Pk → Pk → Int32 → Option Int32) (hrec18 : ∀ (w_t : Pk) (w_w : Pk) (w_b : Pk) (w_l : Pk) (w_H : Pk) (w_k0 : Pk) (w_k1 : Pk) (w_k2 : Pk) (w_k3 : Pk) (w_k4 : Pk) (w_k5 : Pk) (w_k6 : Pk) (w_k7 : Pk) (w_x : Pk) (w_T : Pk) (w_L : Pk) (w_P : Pk) (w_C : Pk) (w_M : Pk) (w_Q : Pk) (w_d : Pk) (w_F : Pk) (w_G : Pk) (w_r : Pk) (w_n : Pk) (w_m : Pk) (y3 : Int32), rec18 w_t w_w w_b w_l w_H w_k0 w_k1 w_k2 w_k3 w_k4 w_k5 w_k6 w_k7 w_x w_T w_L w_P w_C w_M w_Q w_d w_F w_G w_r w_n w_m y3 = some 1 → BK X 8 177 15831 18 ([nX9 cI cZ cQ h_t (h_w 0) (h_b 0) (h_l 0) (h_H 0) (h_x 0) (h_T 0) (h_C 0) (h_d 0) (h_F 0) (h_r 0) (h_n 0) w_t, nX8 cI cZ cQ h_w w_w, nX8 cI cZ cQ h_b w_b, nX8 cI cZ cQ h_l w_l, nX2 cI cZ cQ h_H (hkf h_k0 h_k1 h_k2 h_k3 h_k4 h_k5 h_k6 h_k7) w_H, nX8 cI cZ cQ h_k0 w_k0, nX8 cI cZ cQ h_k1 w_k1, nX8 cI cZ cQ h_k2 w_k2, nX8 cI cZ cQ h_k3 w_k3, nX8 cI cZ cQ h_k4 w_k4, nX8 cI cZ cQ h_k5 w_k5, nX8 cI cZ cQ h_k6 w_k6, nX8 cI cZ cQ h_k7 w_k7, nX7 cI cZ cQ h_x w_x, nX6 cI cZ cQ h_T (h_w 0) (h_L 0) (h_P 0) w_T, nX4 cI cZ cQ h_L (h_w 0) w_L, nX4 cI cZ cQ h_P (h_w 0) w_P, nX6 cI cZ cQ h_C (h_w 0) (h_M 0) (h_Q 0) w_C, nX4 cI cZ cQ h_M (h_w 0) w_M, nX4 cI cZ cQ h_Q (h_w 0) w_Q, nX0 cI cZ cQ h_d (h_w 0) (h_T 0) w_d, nX1 cI cZ cQ h_F (h_G 0) w_F, nX4 cI cZ cQ h_G (h_w 0) w_G, nX5 cI cZ cQ h_r (h_w 0) w_r, nX3 cI cZ cQ h_n (h_w 0) w_n, nX10 cI cZ cQ h_m w_m]) [(0, .ref bS), (1, .ref (h_t 0)), (2, .ref (h_m 0)), (3, .int y3)] []) : ∀ (w_t : Pk) (w_w : Pk) (w_b : Pk) (w_l : Pk) (w_H : Pk) (w_k0 : Pk) (w_k1 : Pk) (w_k2 : Pk) (w_k3 : Pk) (w_k4 : Pk) (w_k5 : Pk) (w_k6 : Pk) (w_k7 : Pk) (w_x : Pk) (w_T : Pk) (w_L : Pk) (w_P : Pk) (w_C : Pk) (w_M : Pk) (w_Q : Pk) (w_d : Pk) (w_F : Pk) (w_G : Pk) (w_r : Pk) (w_n : Pk) (w_m : Pk) (y3 : Int32), fL_b552 L xs rec18 w_t w_w w_b w_l w_H w_k0 w_k1 w_k2 w_k3 w_k4 w_k5 w_k6 w_k7 w_x w_T w_L w_P w_C w_M w_Q w_d w_F w_G w_r w_n w_m y3 = some 1 → BK X 8 177 15831 552 ([nX9 cI cZ cQ h_t (h_w 0) (h_b 0) (h_l 0) (h_H 0) (h_x 0) (h_T 0) (h_C 0) (h_d 0) (h_F 0) (h_r 0) (h_n 0) w_t, nX8 cI cZ cQ h_w w_w, nX8 cI cZ cQ h_b w_b, nX8 cI cZ cQ h_l w_l, nX2 cI cZ cQ h_H (hkf h_k0 h_k1 h_k2 h_k3 h_k4 h_k5 h_k6 h_k7) w_H, nX8 cI cZ cQ h_k0 w_k0, nX8 cI cZ cQ h_k1 w_k1, nX8 cI cZ cQ h_k2 w_k2, nX8 cI cZ cQ h_k3 w_k3, nX8 cI cZ cQ h_k4 w_k4, nX8 cI cZ cQ h_k5 w_k5, nX8 cI cZ cQ h_k6 w_k6, nX8 cI cZ cQ h_k7 w_k7, nX7 cI cZ cQ h_x w_x, nX6 cI cZ cQ h_T (h_w 0) (h_L 0) (h_P 0) w_T, nX4 cI cZ cQ h_L (h_w 0) w_L, nX4 cI cZ cQ h_P (h_w 0) w_P, nX6 cI cZ cQ h_C (h_w 0) (h_M 0) (h_Q 0) w_C, nX4 cI cZ cQ h_M (h_w 0) w_M, nX4 cI cZ cQ h_Q (h_w 0) w_Q, nX0 cI cZ cQ h_d (h_w 0) (h_T 0) w_d, nX1 cI cZ cQ h_F (h_G 0) w_F, nX4 cI cZ cQ h_G (h_w 0) w_G, nX5 cI cZ cQ h_r (h_w 0) w_r, nX3 cI cZ cQ h_n (h_w 0) w_n, nX10 cI cZ cQ h_m w_m]) [(0, .ref bS), (1, .ref (h_t 0)), (2, .ref (h_m 0)), (3, .int y3)] [] := by
  intro w_t w_w w_b w_l w_H w_k0 w_k1 w_k2 w_k3 w_k4 w_k5 w_k6 w_k7 w_x w_T w_L w_P w_C w_M w_Q w_d w_F w_G w_r w_n w_m y3 hf
  unfold fL_b552 at hf
  refine r_ald_n O 553 rfl 1 rfl dL_law_552 ?_
  obtain ⟨x553, hq553, hf⟩ := qb1_some hf
  refine k_VI O 556 rfl (zX9_weights (l := xl X) (D := xD X) (cI := cI) (cZ := cZ) (cQ := cQ) (h_t := h_t) (h_w := h_w) (r_b := (h_b 0)) (r_l := (h_l 0)) (r_H := (h_H 0)) (r_x := (h_x 0)) (r_T := (h_T 0)) (r_C := (h_C 0)) (r_d := (h_d 0)) (r_F := (h_F 0)) (r_r := (h_r 0)) (r_n := (h_n 0)) hq553) (gV mlL_58 mvX9_weights izX9) rfl rfl rfl hdX9_weights ⟨Nat.le_of_ble_eq_true rfl, Nat.le_of_ble_eq_true rfl⟩ rfl 0 rfl rfl rfl rfl (Nat.le_of_ble_eq_true rfl) ⟨Nat.le_of_ble_eq_true rfl, Nat.le_of_ble_eq_true rfl⟩ [0, 1] rfl rfl rfl ([nX9 cI cZ cQ h_t (h_w 0) (h_b 0) (h_l 0) (h_H 0) (h_x 0) (h_T 0) (h_C 0) (h_d 0) (h_F 0) (h_r 0) (h_n 0) w_t, nX8 cI cZ cQ h_w w_w, nX8 cI cZ cQ h_b w_b, nX8 cI cZ cQ h_l w_l, nX2 cI cZ cQ h_H (hkf h_k0 h_k1 h_k2 h_k3 h_k4 h_k5 h_k6 h_k7) w_H, nX8 cI cZ cQ h_k0 w_k0, nX8 cI cZ cQ h_k1 w_k1, nX8 cI cZ cQ h_k2 w_k2, nX8 cI cZ cQ h_k3 w_k3, nX8 cI cZ cQ h_k4 w_k4, nX8 cI cZ cQ h_k5 w_k5, nX8 cI cZ cQ h_k6 w_k6, nX8 cI cZ cQ h_k7 w_k7, nX7 cI cZ cQ h_x w_x, nX6 cI cZ cQ h_T (h_w 0) (h_L 0) (h_P 0) w_T, nX4 cI cZ cQ h_L (h_w 0) w_L, nX4 cI cZ cQ h_P (h_w 0) w_P, nX6 cI cZ cQ h_C (h_w 0) (h_M 0) (h_Q 0) w_C, nX4 cI cZ cQ h_M (h_w 0) w_M, nX4 cI cZ cQ h_Q (h_w 0) w_Q, nX0 cI cZ cQ h_d (h_w 0) (h_T 0) w_d, nX1 cI cZ cQ h_F (h_G 0) w_F, nX4 cI cZ cQ h_G (h_w 0) w_G, nX5 cI cZ cQ h_r (h_w 0) w_r, nX3 cI cZ cQ h_n (h_w 0) w_n, nX10 cI cZ cQ h_m w_m]) rfl dL_law_553 ?_
  refine r_ald_n O 557 rfl 2 rfl dL_law_556 ?_
  obtain ⟨x557, hq557, hf⟩ := qb1_some hf
  refine k_VI O 560 rfl (zX10_weights (l := xl X) (D := xD X) (cI := cI) (cZ := cZ) (cQ := cQ) (h_t := h_m) hq557) (gV mlL_61 mvX10_weights izX10) rfl rfl rfl hdX10_weights ⟨Nat.le_of_ble_eq_true rfl, Nat.le_of_ble_eq_true rfl⟩ rfl 25 rfl rfl rfl rfl (Nat.le_of_ble_eq_true rfl) ⟨Nat.le_of_ble_eq_true rfl, Nat.le_of_ble_eq_true rfl⟩ [25] rfl rfl rfl ([nX9 cI cZ cQ h_t (h_w 0) (h_b 0) (h_l 0) (h_H 0) (h_x 0) (h_T 0) (h_C 0) (h_d 0) (h_F 0) (h_r 0) (h_n 0) w_t, nX8 cI cZ cQ h_w w_w, nX8 cI cZ cQ h_b w_b, nX8 cI cZ cQ h_l w_l, nX2 cI cZ cQ h_H (hkf h_k0 h_k1 h_k2 h_k3 h_k4 h_k5 h_k6 h_k7) w_H, nX8 cI cZ cQ h_k0 w_k0, nX8 cI cZ cQ h_k1 w_k1, nX8 cI cZ cQ h_k2 w_k2, nX8 cI cZ cQ h_k3 w_k3, nX8 cI cZ cQ h_k4 w_k4, nX8 cI cZ cQ h_k5 w_k5, nX8 cI cZ cQ h_k6 w_k6, nX8 cI cZ cQ h_k7 w_k7, nX7 cI cZ cQ h_x w_x, nX6 cI cZ cQ h_T (h_w 0) (h_L 0) (h_P 0) w_T, nX4 cI cZ cQ h_L (h_w 0) w_L, nX4 cI cZ cQ h_P (h_w 0) w_P, nX6 cI cZ cQ h_C (h_w 0) (h_M 0) (h_Q 0) w_C, nX4 cI cZ cQ h_M (h_w 0) w_M, nX4 cI cZ cQ h_Q (h_w 0) w_Q, nX0 cI cZ cQ h_d (h_w 0) (h_T 0) w_d, nX1 cI cZ cQ h_F (h_G 0) w_F, nX4 cI cZ cQ h_G (h_w 0) w_G, nX5 cI cZ cQ h_r (h_w 0) w_r, nX3 cI cZ cQ h_n (h_w 0) w_n, nX10 cI cZ cQ h_m w_m]) rfl dL_law_557 ?_
  refine r_icmp_eq O 563 rfl 1795 dL_law_560 (by decide) (fun hc560 => ?_) (fun hc560 => ?_)
  · rw [if_pos hc560] at hf
    exact lwB1795 O S E rec18 hrec18 _ _ _ _ _ _ _ _ _ _ _ _ _ _ _ _ _ _ _ _ _ _ _ _ _ _ _ hf
  · rw [if_neg hc560] at hf
    refine r_ic O 564 rfl 0 (by decide) dL_law_563 ?_
    exact absurd (qe1 hf) (by decide)
set_option maxHeartbeats 40000000 in
set_option maxRecDepth 100000 in
theorem lwB689 {X : Cx} {cI cZ cQ : ClassId} {bS L : Nat} {xs : Nat → Int32} (O : OK X cL_law 8 RL wB room_1 cI cZ cQ) (S : SX X bS L xs) (E : ∀ {pc : Nat} {ws : List va_W} {lv : List (Nat × Value)}, decode cL_law pc = .ok (.ireturn, 1) → BK X 8 177 15831 pc ws lv [.int 1]) {h_t h_w h_b h_l h_H h_k0 h_k1 h_k2 h_k3 h_k4 h_k5 h_k6 h_k7 h_x h_T h_L h_P h_C h_M h_Q h_d h_F h_G h_r h_n h_m : Nat → Nat} (rec18 : Pk → Pk → Pk → Pk → Pk → Pk → Pk → Pk → Pk → Pk → Pk → Pk → Pk → Pk → Pk → Pk → Pk → Pk → Pk → Pk → Pk → Pk → Pk → Pk → Pk → Pk → Int32 → Option Int32) (hrec18 : ∀ (w_t : Pk) (w_w : Pk) (w_b : Pk) (w_l : Pk) (w_H : Pk) (w_k0 : Pk) (w_k1 : Pk) (w_k2 : Pk) (w_k3 : Pk) (w_k4 : Pk) (w_k5 : Pk) (w_k6 : Pk) (w_k7 : Pk) (w_x : Pk) (w_T : Pk) (w_L : Pk) (w_P : Pk) (w_C : Pk) (w_M : Pk) (w_Q : Pk) (w_d : Pk) (w_F : Pk) (w_G : Pk) (w_r : Pk) (w_n : Pk) (w_m : Pk) (y3 : Int32), rec18 w_t w_w w_b w_l w_H w_k0 w_k1 w_k2 w_k3 w_k4 w_k5 w_k6 w_k7 w_x w_T w_L w_P w_C w_M w_Q w_d w_F w_G w_r w_n w_m y3 = some 1 → BK X 8 177 15831 18 ([nX9 cI cZ cQ h_t (h_w 0) (h_b 0) (h_l 0) (h_H 0) (h_x 0) (h_T 0) (h_C 0) (h_d 0) (h_F 0) (h_r 0) (h_n 0) w_t, nX8 cI cZ cQ h_w w_w, nX8 cI cZ cQ h_b w_b, nX8 cI cZ cQ h_l w_l, nX2 cI cZ cQ h_H (hkf h_k0 h_k1 h_k2 h_k3 h_k4 h_k5 h_k6 h_k7) w_H, nX8 cI cZ cQ h_k0 w_k0, nX8 cI cZ cQ h_k1 w_k1, nX8 cI cZ cQ h_k2 w_k2, nX8 cI cZ cQ h_k3 w_k3, nX8 cI cZ cQ h_k4 w_k4, nX8 cI cZ cQ h_k5 w_k5, nX8 cI cZ cQ h_k6 w_k6, nX8 cI cZ cQ h_k7 w_k7, nX7 cI cZ cQ h_x w_x, nX6 cI cZ cQ h_T (h_w 0) (h_L 0) (h_P 0) w_T, nX4 cI cZ cQ h_L (h_w 0) w_L, nX4 cI cZ cQ h_P (h_w 0) w_P, nX6 cI cZ cQ h_C (h_w 0) (h_M 0) (h_Q 0) w_C, nX4 cI cZ cQ h_M (h_w 0) w_M, nX4 cI cZ cQ h_Q (h_w 0) w_Q, nX0 cI cZ cQ h_d (h_w 0) (h_T 0) w_d, nX1 cI cZ cQ h_F (h_G 0) w_F, nX4 cI cZ cQ h_G (h_w 0) w_G, nX5 cI cZ cQ h_r (h_w 0) w_r, nX3 cI cZ cQ h_n (h_w 0) w_n, nX10 cI cZ cQ h_m w_m]) [(0, .ref bS), (1, .ref (h_t 0)), (2, .ref (h_m 0)), (3, .int y3)] []) : ∀ (w_t : Pk) (w_w : Pk) (w_b : Pk) (w_l : Pk) (w_H : Pk) (w_k0 : Pk) (w_k1 : Pk) (w_k2 : Pk) (w_k3 : Pk) (w_k4 : Pk) (w_k5 : Pk) (w_k6 : Pk) (w_k7 : Pk) (w_x : Pk) (w_T : Pk) (w_L : Pk) (w_P : Pk) (w_C : Pk) (w_M : Pk) (w_Q : Pk) (w_d : Pk) (w_F : Pk) (w_G : Pk) (w_r : Pk) (w_n : Pk) (w_m : Pk) (y3 : Int32), fL_b689 L xs rec18 w_t w_w w_b w_l w_H w_k0 w_k1 w_k2 w_k3 w_k4 w_k5 w_k6 w_k7 w_x w_T w_L w_P w_C w_M w_Q w_d w_F w_G w_r w_n w_m y3 = some 1 → BK X 8 177 15831 689 ([nX9 cI cZ cQ h_t (h_w 0) (h_b 0) (h_l 0) (h_H 0) (h_x 0) (h_T 0) (h_C 0) (h_d 0) (h_F 0) (h_r 0) (h_n 0) w_t, nX8 cI cZ cQ h_w w_w, nX8 cI cZ cQ h_b w_b, nX8 cI cZ cQ h_l w_l, nX2 cI cZ cQ h_H (hkf h_k0 h_k1 h_k2 h_k3 h_k4 h_k5 h_k6 h_k7) w_H, nX8 cI cZ cQ h_k0 w_k0, nX8 cI cZ cQ h_k1 w_k1, nX8 cI cZ cQ h_k2 w_k2, nX8 cI cZ cQ h_k3 w_k3, nX8 cI cZ cQ h_k4 w_k4, nX8 cI cZ cQ h_k5 w_k5, nX8 cI cZ cQ h_k6 w_k6, nX8 cI cZ cQ h_k7 w_k7, nX7 cI cZ cQ h_x w_x, nX6 cI cZ cQ h_T (h_w 0) (h_L 0) (h_P 0) w_T, nX4 cI cZ cQ h_L (h_w 0) w_L, nX4 cI cZ cQ h_P (h_w 0) w_P, nX6 cI cZ cQ h_C (h_w 0) (h_M 0) (h_Q 0) w_C, nX4 cI cZ cQ h_M (h_w 0) w_M, nX4 cI cZ cQ h_Q (h_w 0) w_Q, nX0 cI cZ cQ h_d (h_w 0) (h_T 0) w_d, nX1 cI cZ cQ h_F (h_G 0) w_F, nX4 cI cZ cQ h_G (h_w 0) w_G, nX5 cI cZ cQ h_r (h_w 0) w_r, nX3 cI cZ cQ h_n (h_w 0) w_n, nX10 cI cZ cQ h_m w_m]) [(0, .ref bS), (1, .ref (h_t 0)), (2, .ref (h_m 0)), (3, .int y3)] [] := by
  intro w_t w_w w_b w_l w_H w_k0 w_k1 w_k2 w_k3 w_k4 w_k5 w_k6 w_k7 w_x w_T w_L w_P w_C w_M w_Q w_d w_F w_G w_r w_n w_m y3 hf
  unfold fL_b689 at hf
  refine r_ald_n O 690 rfl 1 rfl dL_law_689 ?_
  refine r_ald_n O 691 rfl 0 rfl dL_law_690 ?_
  refine r_ild_n O 692 rfl 3 rfl dL_law_691 ?_
  refine r_ic O 693 rfl 1 (by decide) dL_law_692 ?_
  refine r_iadd O 694 rfl dL_law_693 ?_
  obtain ⟨x694, ex694, hin694, hf⟩ := qld_some hf
  refine r_sld O S 695 rfl hin694 dL_law_694 ?_
  rw [← ex694]
  refine r_ald_n O 696 rfl 0 rfl dL_law_695 ?_
  refine r_ild_n O 697 rfl 3 rfl dL_law_696 ?_
  refine r_ic O 698 rfl 2 (by decide) dL_law_697 ?_
  refine r_iadd O 699 rfl dL_law_698 ?_
  obtain ⟨x699, ex699, hin699, hf⟩ := qld_some hf
  refine r_sld O S 700 rfl hin699 dL_law_699 ?_
  rw [← ex699]
  obtain ⟨x700, p700_t, p700_b, p700_T, p700_L, p700_P, hq700, hf⟩ := qb6_some hf
  refine k_VI O 703 rfl (zX9_nodeChild (l := xl X) (D := xD X) (cI := cI) (cZ := cZ) (cQ := cQ) (h_t := h_t) (h_w := h_w) (h_b := h_b) (r_l := (h_l 0)) (r_H := (h_H 0)) (r_x := (h_x 0)) (h_T := h_T) (h_L := h_L) (h_P := h_P) (r_C := (h_C 0)) (r_d := (h_d 0)) (r_F := (h_F 0)) (r_r := (h_r 0)) (r_n := (h_n 0)) hq700) (gV mlL_94 mvX9_nodeChild izX9) rfl rfl rfl hdX9_nodeChild ⟨Nat.le_of_ble_eq_true rfl, Nat.le_of_ble_eq_true rfl⟩ rfl 0 rfl rfl rfl rfl (Nat.le_of_ble_eq_true rfl) ⟨Nat.le_of_ble_eq_true rfl, Nat.le_of_ble_eq_true rfl⟩ [0, 1, 2, 14, 15, 16] rfl rfl rfl ([nX9 cI cZ cQ h_t (h_w 0) (h_b 0) (h_l 0) (h_H 0) (h_x 0) (h_T 0) (h_C 0) (h_d 0) (h_F 0) (h_r 0) (h_n 0) p700_t, nX8 cI cZ cQ h_w w_w, nX8 cI cZ cQ h_b p700_b, nX8 cI cZ cQ h_l w_l, nX2 cI cZ cQ h_H (hkf h_k0 h_k1 h_k2 h_k3 h_k4 h_k5 h_k6 h_k7) w_H, nX8 cI cZ cQ h_k0 w_k0, nX8 cI cZ cQ h_k1 w_k1, nX8 cI cZ cQ h_k2 w_k2, nX8 cI cZ cQ h_k3 w_k3, nX8 cI cZ cQ h_k4 w_k4, nX8 cI cZ cQ h_k5 w_k5, nX8 cI cZ cQ h_k6 w_k6, nX8 cI cZ cQ h_k7 w_k7, nX7 cI cZ cQ h_x w_x, nX6 cI cZ cQ h_T (h_w 0) (h_L 0) (h_P 0) p700_T, nX4 cI cZ cQ h_L (h_w 0) p700_L, nX4 cI cZ cQ h_P (h_w 0) p700_P, nX6 cI cZ cQ h_C (h_w 0) (h_M 0) (h_Q 0) w_C, nX4 cI cZ cQ h_M (h_w 0) w_M, nX4 cI cZ cQ h_Q (h_w 0) w_Q, nX0 cI cZ cQ h_d (h_w 0) (h_T 0) w_d, nX1 cI cZ cQ h_F (h_G 0) w_F, nX4 cI cZ cQ h_G (h_w 0) w_G, nX5 cI cZ cQ h_r (h_w 0) w_r, nX3 cI cZ cQ h_n (h_w 0) w_n, nX10 cI cZ cQ h_m w_m]) rfl dL_law_700 ?_
  refine r_ald_n O 704 rfl 2 rfl dL_law_703 ?_
  refine r_ald_n O 705 rfl 0 rfl dL_law_704 ?_
  refine r_ild_n O 706 rfl 3 rfl dL_law_705 ?_
  refine r_ic O 707 rfl 1 (by decide) dL_law_706 ?_
  refine r_iadd O 708 rfl dL_law_707 ?_
  obtain ⟨x708, ex708, hin708, hf⟩ := qld_some hf
  refine r_sld O S 709 rfl hin708 dL_law_708 ?_
  rw [← ex708]
  refine r_ald_n O 710 rfl 0 rfl dL_law_709 ?_
  refine r_ild_n O 711 rfl 3 rfl dL_law_710 ?_
  refine r_ic O 712 rfl 2 (by decide) dL_law_711 ?_
  refine r_iadd O 713 rfl dL_law_712 ?_
  obtain ⟨x713, ex713, hin713, hf⟩ := qld_some hf
  refine r_sld O S 714 rfl hin713 dL_law_713 ?_
  rw [← ex713]
  obtain ⟨x714, p714_m, hq714, hf⟩ := qb2_some hf
  refine k_VI O 717 rfl (zX10_nodeChild (l := xl X) (D := xD X) (cI := cI) (cZ := cZ) (cQ := cQ) (h_t := h_m) hq714) (gV mlL_97 mvX10_nodeChild izX10) rfl rfl rfl hdX10_nodeChild ⟨Nat.le_of_ble_eq_true rfl, Nat.le_of_ble_eq_true rfl⟩ rfl 25 rfl rfl rfl rfl (Nat.le_of_ble_eq_true rfl) ⟨Nat.le_of_ble_eq_true rfl, Nat.le_of_ble_eq_true rfl⟩ [25] rfl rfl rfl ([nX9 cI cZ cQ h_t (h_w 0) (h_b 0) (h_l 0) (h_H 0) (h_x 0) (h_T 0) (h_C 0) (h_d 0) (h_F 0) (h_r 0) (h_n 0) p700_t, nX8 cI cZ cQ h_w w_w, nX8 cI cZ cQ h_b p700_b, nX8 cI cZ cQ h_l w_l, nX2 cI cZ cQ h_H (hkf h_k0 h_k1 h_k2 h_k3 h_k4 h_k5 h_k6 h_k7) w_H, nX8 cI cZ cQ h_k0 w_k0, nX8 cI cZ cQ h_k1 w_k1, nX8 cI cZ cQ h_k2 w_k2, nX8 cI cZ cQ h_k3 w_k3, nX8 cI cZ cQ h_k4 w_k4, nX8 cI cZ cQ h_k5 w_k5, nX8 cI cZ cQ h_k6 w_k6, nX8 cI cZ cQ h_k7 w_k7, nX7 cI cZ cQ h_x w_x, nX6 cI cZ cQ h_T (h_w 0) (h_L 0) (h_P 0) p700_T, nX4 cI cZ cQ h_L (h_w 0) p700_L, nX4 cI cZ cQ h_P (h_w 0) p700_P, nX6 cI cZ cQ h_C (h_w 0) (h_M 0) (h_Q 0) w_C, nX4 cI cZ cQ h_M (h_w 0) w_M, nX4 cI cZ cQ h_Q (h_w 0) w_Q, nX0 cI cZ cQ h_d (h_w 0) (h_T 0) w_d, nX1 cI cZ cQ h_F (h_G 0) w_F, nX4 cI cZ cQ h_G (h_w 0) w_G, nX5 cI cZ cQ h_r (h_w 0) w_r, nX3 cI cZ cQ h_n (h_w 0) w_n, nX10 cI cZ cQ h_m p714_m]) rfl dL_law_714 ?_
  refine r_icmp_eq O 720 rfl 1795 dL_law_717 (by decide) (fun hc717 => ?_) (fun hc717 => ?_)
  · rw [if_pos hc717] at hf
    exact lwB1795 O S E rec18 hrec18 _ _ _ _ _ _ _ _ _ _ _ _ _ _ _ _ _ _ _ _ _ _ _ _ _ _ _ hf
  · rw [if_neg hc717] at hf
    refine r_ic O 721 rfl 0 (by decide) dL_law_720 ?_
    exact absurd (qe1 hf) (by decide)
set_option maxHeartbeats 40000000 in
set_option maxRecDepth 100000 in
theorem lwB437 {X : Cx} {cI cZ cQ : ClassId} {bS L : Nat} {xs : Nat → Int32} (O : OK X cL_law 8 RL wB room_1 cI cZ cQ) (S : SX X bS L xs) (E : ∀ {pc : Nat} {ws : List va_W} {lv : List (Nat × Value)}, decode cL_law pc = .ok (.ireturn, 1) → BK X 8 177 15831 pc ws lv [.int 1]) {h_t h_w h_b h_l h_H h_k0 h_k1 h_k2 h_k3 h_k4 h_k5 h_k6 h_k7 h_x h_T h_L h_P h_C h_M h_Q h_d h_F h_G h_r h_n h_m : Nat → Nat} (rec18 : Pk → Pk → Pk → Pk → Pk → Pk → Pk → Pk → Pk → Pk → Pk → Pk → Pk → Pk → Pk → Pk → Pk → Pk → Pk → Pk → Pk → Pk → Pk → Pk → Pk → Pk → Int32 → Option Int32) (hrec18 : ∀ (w_t : Pk) (w_w : Pk) (w_b : Pk) (w_l : Pk) (w_H : Pk) (w_k0 : Pk) (w_k1 : Pk) (w_k2 : Pk) (w_k3 : Pk) (w_k4 : Pk) (w_k5 : Pk) (w_k6 : Pk) (w_k7 : Pk) (w_x : Pk) (w_T : Pk) (w_L : Pk) (w_P : Pk) (w_C : Pk) (w_M : Pk) (w_Q : Pk) (w_d : Pk) (w_F : Pk) (w_G : Pk) (w_r : Pk) (w_n : Pk) (w_m : Pk) (y3 : Int32), rec18 w_t w_w w_b w_l w_H w_k0 w_k1 w_k2 w_k3 w_k4 w_k5 w_k6 w_k7 w_x w_T w_L w_P w_C w_M w_Q w_d w_F w_G w_r w_n w_m y3 = some 1 → BK X 8 177 15831 18 ([nX9 cI cZ cQ h_t (h_w 0) (h_b 0) (h_l 0) (h_H 0) (h_x 0) (h_T 0) (h_C 0) (h_d 0) (h_F 0) (h_r 0) (h_n 0) w_t, nX8 cI cZ cQ h_w w_w, nX8 cI cZ cQ h_b w_b, nX8 cI cZ cQ h_l w_l, nX2 cI cZ cQ h_H (hkf h_k0 h_k1 h_k2 h_k3 h_k4 h_k5 h_k6 h_k7) w_H, nX8 cI cZ cQ h_k0 w_k0, nX8 cI cZ cQ h_k1 w_k1, nX8 cI cZ cQ h_k2 w_k2, nX8 cI cZ cQ h_k3 w_k3, nX8 cI cZ cQ h_k4 w_k4, nX8 cI cZ cQ h_k5 w_k5, nX8 cI cZ cQ h_k6 w_k6, nX8 cI cZ cQ h_k7 w_k7, nX7 cI cZ cQ h_x w_x, nX6 cI cZ cQ h_T (h_w 0) (h_L 0) (h_P 0) w_T, nX4 cI cZ cQ h_L (h_w 0) w_L, nX4 cI cZ cQ h_P (h_w 0) w_P, nX6 cI cZ cQ h_C (h_w 0) (h_M 0) (h_Q 0) w_C, nX4 cI cZ cQ h_M (h_w 0) w_M, nX4 cI cZ cQ h_Q (h_w 0) w_Q, nX0 cI cZ cQ h_d (h_w 0) (h_T 0) w_d, nX1 cI cZ cQ h_F (h_G 0) w_F, nX4 cI cZ cQ h_G (h_w 0) w_G, nX5 cI cZ cQ h_r (h_w 0) w_r, nX3 cI cZ cQ h_n (h_w 0) w_n, nX10 cI cZ cQ h_m w_m]) [(0, .ref bS), (1, .ref (h_t 0)), (2, .ref (h_m 0)), (3, .int y3)] []) : ∀ (w_t : Pk) (w_w : Pk) (w_b : Pk) (w_l : Pk) (w_H : Pk) (w_k0 : Pk) (w_k1 : Pk) (w_k2 : Pk) (w_k3 : Pk) (w_k4 : Pk) (w_k5 : Pk) (w_k6 : Pk) (w_k7 : Pk) (w_x : Pk) (w_T : Pk) (w_L : Pk) (w_P : Pk) (w_C : Pk) (w_M : Pk) (w_Q : Pk) (w_d : Pk) (w_F : Pk) (w_G : Pk) (w_r : Pk) (w_n : Pk) (w_m : Pk) (y3 : Int32), fL_b437 L xs rec18 w_t w_w w_b w_l w_H w_k0 w_k1 w_k2 w_k3 w_k4 w_k5 w_k6 w_k7 w_x w_T w_L w_P w_C w_M w_Q w_d w_F w_G w_r w_n w_m y3 = some 1 → BK X 8 177 15831 437 ([nX9 cI cZ cQ h_t (h_w 0) (h_b 0) (h_l 0) (h_H 0) (h_x 0) (h_T 0) (h_C 0) (h_d 0) (h_F 0) (h_r 0) (h_n 0) w_t, nX8 cI cZ cQ h_w w_w, nX8 cI cZ cQ h_b w_b, nX8 cI cZ cQ h_l w_l, nX2 cI cZ cQ h_H (hkf h_k0 h_k1 h_k2 h_k3 h_k4 h_k5 h_k6 h_k7) w_H, nX8 cI cZ cQ h_k0 w_k0, nX8 cI cZ cQ h_k1 w_k1, nX8 cI cZ cQ h_k2 w_k2, nX8 cI cZ cQ h_k3 w_k3, nX8 cI cZ cQ h_k4 w_k4, nX8 cI cZ cQ h_k5 w_k5, nX8 cI cZ cQ h_k6 w_k6, nX8 cI cZ cQ h_k7 w_k7, nX7 cI cZ cQ h_x w_x, nX6 cI cZ cQ h_T (h_w 0) (h_L 0) (h_P 0) w_T, nX4 cI cZ cQ h_L (h_w 0) w_L, nX4 cI cZ cQ h_P (h_w 0) w_P, nX6 cI cZ cQ h_C (h_w 0) (h_M 0) (h_Q 0) w_C, nX4 cI cZ cQ h_M (h_w 0) w_M, nX4 cI cZ cQ h_Q (h_w 0) w_Q, nX0 cI cZ cQ h_d (h_w 0) (h_T 0) w_d, nX1 cI cZ cQ h_F (h_G 0) w_F, nX4 cI cZ cQ h_G (h_w 0) w_G, nX5 cI cZ cQ h_r (h_w 0) w_r, nX3 cI cZ cQ h_n (h_w 0) w_n, nX10 cI cZ cQ h_m w_m]) [(0, .ref bS), (1, .ref (h_t 0)), (2, .ref (h_m 0)), (3, .int y3)] [] := by
  intro w_t w_w w_b w_l w_H w_k0 w_k1 w_k2 w_k3 w_k4 w_k5 w_k6 w_k7 w_x w_T w_L w_P w_C w_M w_Q w_d w_F w_G w_r w_n w_m y3 hf
  unfold fL_b437 at hf
  refine r_ald_n O 438 rfl 1 rfl dL_law_437 ?_
  refine r_ald_n O 439 rfl 0 rfl dL_law_438 ?_
  refine r_ild_n O 440 rfl 3 rfl dL_law_439 ?_
  refine r_ic O 441 rfl 1 (by decide) dL_law_440 ?_
  refine r_iadd O 442 rfl dL_law_441 ?_
  obtain ⟨x442, ex442, hin442, hf⟩ := qld_some hf
  refine r_sld O S 443 rfl hin442 dL_law_442 ?_
  rw [← ex442]
  refine r_ald_n O 444 rfl 0 rfl dL_law_443 ?_
  refine r_ild_n O 445 rfl 3 rfl dL_law_444 ?_
  refine r_ic O 446 rfl 2 (by decide) dL_law_445 ?_
  refine r_iadd O 447 rfl dL_law_446 ?_
  obtain ⟨x447, ex447, hin447, hf⟩ := qld_some hf
  refine r_sld O S 448 rfl hin447 dL_law_447 ?_
  rw [← ex447]
  obtain ⟨x448, p448_t, p448_w, p448_H, p448_k0, p448_k1, p448_k2, p448_k3, p448_k4, p448_k5, p448_k6, p448_k7, hq448, hf⟩ := qb12_some hf
  refine k_VI O 451 rfl (zX9_setWeights (l := xl X) (D := xD X) (cI := cI) (cZ := cZ) (cQ := cQ) (h_t := h_t) (h_w := h_w) (r_b := (h_b 0)) (r_l := (h_l 0)) (h_H := h_H) (h_k0 := h_k0) (h_k1 := h_k1) (h_k2 := h_k2) (h_k3 := h_k3) (h_k4 := h_k4) (h_k5 := h_k5) (h_k6 := h_k6) (h_k7 := h_k7) (r_x := (h_x 0)) (r_T := (h_T 0)) (r_C := (h_C 0)) (r_d := (h_d 0)) (r_F := (h_F 0)) (r_r := (h_r 0)) (r_n := (h_n 0)) hq448) (gV mlL_37 mvX9_setWeights izX9) rfl rfl rfl hdX9_setWeights ⟨Nat.le_of_ble_eq_true rfl, Nat.le_of_ble_eq_true rfl⟩ rfl 0 rfl rfl rfl rfl (Nat.le_of_ble_eq_true rfl) ⟨Nat.le_of_ble_eq_true rfl, Nat.le_of_ble_eq_true rfl⟩ [0, 1, 4, 5, 6, 7, 8, 9, 10, 11, 12] rfl rfl rfl ([nX9 cI cZ cQ h_t (h_w 0) (h_b 0) (h_l 0) (h_H 0) (h_x 0) (h_T 0) (h_C 0) (h_d 0) (h_F 0) (h_r 0) (h_n 0) p448_t, nX8 cI cZ cQ h_w p448_w, nX8 cI cZ cQ h_b w_b, nX8 cI cZ cQ h_l w_l, nX2 cI cZ cQ h_H (hkf h_k0 h_k1 h_k2 h_k3 h_k4 h_k5 h_k6 h_k7) p448_H, nX8 cI cZ cQ h_k0 p448_k0, nX8 cI cZ cQ h_k1 p448_k1, nX8 cI cZ cQ h_k2 p448_k2, nX8 cI cZ cQ h_k3 p448_k3, nX8 cI cZ cQ h_k4 p448_k4, nX8 cI cZ cQ h_k5 p448_k5, nX8 cI cZ cQ h_k6 p448_k6, nX8 cI cZ cQ h_k7 p448_k7, nX7 cI cZ cQ h_x w_x, nX6 cI cZ cQ h_T (h_w 0) (h_L 0) (h_P 0) w_T, nX4 cI cZ cQ h_L (h_w 0) w_L, nX4 cI cZ cQ h_P (h_w 0) w_P, nX6 cI cZ cQ h_C (h_w 0) (h_M 0) (h_Q 0) w_C, nX4 cI cZ cQ h_M (h_w 0) w_M, nX4 cI cZ cQ h_Q (h_w 0) w_Q, nX0 cI cZ cQ h_d (h_w 0) (h_T 0) w_d, nX1 cI cZ cQ h_F (h_G 0) w_F, nX4 cI cZ cQ h_G (h_w 0) w_G, nX5 cI cZ cQ h_r (h_w 0) w_r, nX3 cI cZ cQ h_n (h_w 0) w_n, nX10 cI cZ cQ h_m w_m]) rfl dL_law_448 ?_
  refine r_ald_n O 452 rfl 2 rfl dL_law_451 ?_
  refine r_ald_n O 453 rfl 0 rfl dL_law_452 ?_
  refine r_ild_n O 454 rfl 3 rfl dL_law_453 ?_
  refine r_ic O 455 rfl 1 (by decide) dL_law_454 ?_
  refine r_iadd O 456 rfl dL_law_455 ?_
  obtain ⟨x456, ex456, hin456, hf⟩ := qld_some hf
  refine r_sld O S 457 rfl hin456 dL_law_456 ?_
  rw [← ex456]
  refine r_ald_n O 458 rfl 0 rfl dL_law_457 ?_
  refine r_ild_n O 459 rfl 3 rfl dL_law_458 ?_
  refine r_ic O 460 rfl 2 (by decide) dL_law_459 ?_
  refine r_iadd O 461 rfl dL_law_460 ?_
  obtain ⟨x461, ex461, hin461, hf⟩ := qld_some hf
  refine r_sld O S 462 rfl hin461 dL_law_461 ?_
  rw [← ex461]
  obtain ⟨x462, p462_m, hq462, hf⟩ := qb2_some hf
  refine k_VI O 465 rfl (zX10_setWeights (l := xl X) (D := xD X) (cI := cI) (cZ := cZ) (cQ := cQ) (h_t := h_m) hq462) (gV mlL_40 mvX10_setWeights izX10) rfl rfl rfl hdX10_setWeights ⟨Nat.le_of_ble_eq_true rfl, Nat.le_of_ble_eq_true rfl⟩ rfl 25 rfl rfl rfl rfl (Nat.le_of_ble_eq_true rfl) ⟨Nat.le_of_ble_eq_true rfl, Nat.le_of_ble_eq_true rfl⟩ [25] rfl rfl rfl ([nX9 cI cZ cQ h_t (h_w 0) (h_b 0) (h_l 0) (h_H 0) (h_x 0) (h_T 0) (h_C 0) (h_d 0) (h_F 0) (h_r 0) (h_n 0) p448_t, nX8 cI cZ cQ h_w p448_w, nX8 cI cZ cQ h_b w_b, nX8 cI cZ cQ h_l w_l, nX2 cI cZ cQ h_H (hkf h_k0 h_k1 h_k2 h_k3 h_k4 h_k5 h_k6 h_k7) p448_H, nX8 cI cZ cQ h_k0 p448_k0, nX8 cI cZ cQ h_k1 p448_k1, nX8 cI cZ cQ h_k2 p448_k2, nX8 cI cZ cQ h_k3 p448_k3, nX8 cI cZ cQ h_k4 p448_k4, nX8 cI cZ cQ h_k5 p448_k5, nX8 cI cZ cQ h_k6 p448_k6, nX8 cI cZ cQ h_k7 p448_k7, nX7 cI cZ cQ h_x w_x, nX6 cI cZ cQ h_T (h_w 0) (h_L 0) (h_P 0) w_T, nX4 cI cZ cQ h_L (h_w 0) w_L, nX4 cI cZ cQ h_P (h_w 0) w_P, nX6 cI cZ cQ h_C (h_w 0) (h_M 0) (h_Q 0) w_C, nX4 cI cZ cQ h_M (h_w 0) w_M, nX4 cI cZ cQ h_Q (h_w 0) w_Q, nX0 cI cZ cQ h_d (h_w 0) (h_T 0) w_d, nX1 cI cZ cQ h_F (h_G 0) w_F, nX4 cI cZ cQ h_G (h_w 0) w_G, nX5 cI cZ cQ h_r (h_w 0) w_r, nX3 cI cZ cQ h_n (h_w 0) w_n, nX10 cI cZ cQ h_m p462_m]) rfl dL_law_462 ?_
  refine r_icmp_eq O 468 rfl 1795 dL_law_465 (by decide) (fun hc465 => ?_) (fun hc465 => ?_)
  · rw [if_pos hc465] at hf
    exact lwB1795 O S E rec18 hrec18 _ _ _ _ _ _ _ _ _ _ _ _ _ _ _ _ _ _ _ _ _ _ _ _ _ _ _ hf
  · rw [if_neg hc465] at hf
    refine r_ic O 469 rfl 0 (by decide) dL_law_468 ?_
    exact absurd (qe1 hf) (by decide)
