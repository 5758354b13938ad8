-- X7_readItem
def rmX7_readItem : Room := { frames := 2, cells := 0, slots := 0, locals := 47 }
set_option maxHeartbeats 4000000 in
set_option maxRecDepth 100000 in
theorem zX7_readItem {l : Launch} {D : va_G} {cI cZ cQ : ClassId} {h_t h_o : Nat → Nat} {u_t u_o : Pk} {a1 : Int32} {r0 : Int32} {v_t v_o : Pk} (hf : fX7_readItem u_t u_o a1 = some (r0, v_t, v_o)) : MZ l yX7_readItem wsX7_readItem rmX7_readItem D (TY cI cZ cQ) [.ref (h_t 0), .int a1, .ref (h_o 0)] [nX7 cI cZ cQ h_t u_t, nX8 cI cZ cQ h_o u_o] r0 [nX7 cI cZ cQ h_t v_t, nX8 cI cZ cQ h_o v_o] := by
  refine MZ.of (own := RX7) (by decide +kernel) rfl rfl (Nat.le_of_ble_eq_true rfl) (lv0 := [(0, .ref (h_t 0)), (1, .int a1), (2, .ref (h_o 0))]) rfl ?_
  intro X O E
  have B153 : ∀ (w_t : Pk) (w_o : Pk) (y1 : Int32) (y3 : Int32) (y4 : Int32), fX7_readItem_b153 w_t w_o y1 y3 y4 = some (r0, v_t, v_o) → BK X 6 0 0 153 ([nX7 cI cZ cQ h_t w_t, nX8 cI cZ cQ h_o w_o]) [(0, .ref (h_t 0)), (1, .int y1), (2, .ref (h_o 0)), (3, .int y3), (4, .int y4)] [] := by
    intro w_t w_o y1 y3 y4 hf
    unfold fX7_readItem_b153 at hf
    refine r_ald_n O 154 rfl 2 rfl dX7_readItem_153 ?_
    refine r_ild_n O 155 rfl 1 rfl dX7_readItem_154 ?_
    refine r_ald_n O 156 rfl 0 rfl dX7_readItem_155 ?_
    refine r_get (ref := RX7) (C := RX7) (T := TX7) (N := 7) O 159 rfl inBX7 0 1 rfl rfl rfl (by decide) flX7_15 rfl rfl dX7_readItem_156 ?_
    refine r_ic O 160 rfl 0 (by decide) dX7_readItem_159 ?_
    obtain ⟨x160, ex160, hin160, hf⟩ := qld_some hf
    refine r_iald O 161 rfl 0 2 rfl rfl hin160 dX7_readItem_160 ?_
    rw [← ex160]
    refine r_ald_n O 162 rfl 0 rfl dX7_readItem_161 ?_
    refine r_get (ref := RX7) (C := RX7) (T := TX7) (N := 7) O 165 rfl inBX7 0 1 rfl rfl rfl (by decide) flX7_15 rfl rfl dX7_readItem_162 ?_
    refine r_ic O 166 rfl 1 (by decide) dX7_readItem_165 ?_
    obtain ⟨x166, ex166, hin166, hf⟩ := qld_some hf
    refine r_iald O 167 rfl 0 2 rfl rfl hin166 dX7_readItem_166 ?_
    rw [← ex166]
    refine r_ald_n O 168 rfl 0 rfl dX7_readItem_167 ?_
    refine r_get (ref := RX7) (C := RX7) (T := TX7) (N := 7) O 171 rfl inBX7 0 1 rfl rfl rfl (by decide) flX7_15 rfl rfl dX7_readItem_168 ?_
    refine r_ic O 172 rfl 2 (by decide) dX7_readItem_171 ?_
    obtain ⟨x172, ex172, hin172, hf⟩ := qld_some hf
    refine r_iald O 173 rfl 0 2 rfl rfl hin172 dX7_readItem_172 ?_
    rw [← ex172]
    refine r_ald_n O 174 rfl 0 rfl dX7_readItem_173 ?_
    refine r_get (ref := RX7) (C := RX7) (T := TX7) (N := 7) O 177 rfl inBX7 0 1 rfl rfl rfl (by decide) flX7_15 rfl rfl dX7_readItem_174 ?_
    refine r_ic O 178 rfl 3 (by decide) dX7_readItem_177 ?_
    obtain ⟨x178, ex178, hin178, hf⟩ := qld_some hf
    refine r_iald O 179 rfl 0 2 rfl rfl hin178 dX7_readItem_178 ?_
    rw [← ex178]
    refine r_ild_n O 180 rfl 3 rfl dX7_readItem_179 ?_
    refine r_ild O 182 rfl 4 rfl dX7_readItem_180 ?_
    obtain ⟨p182_o, hq182, hf⟩ := qb1_some hf
    refine k_VV O 185 rfl (zX8_put (l := xl X) (D := xD X) (cI := cI) (cZ := cZ) (cQ := cQ) (h_t := h_o) hq182) (gV mlX7_58 mvX8_put izX8) rfl rfl rfl hdX8_put ⟨Nat.le_of_ble_eq_true rfl, Nat.le_of_ble_eq_true rfl⟩ rfl 1 rfl rfl rfl rfl (Nat.le_of_ble_eq_true rfl) ⟨Nat.zero_le _, Nat.zero_le _⟩ [1] rfl rfl rfl ([nX7 cI cZ cQ h_t w_t, nX8 cI cZ cQ h_o p182_o]) rfl dX7_readItem_182 ?_
    refine r_ic O 186 rfl 1 (by decide) dX7_readItem_185 ?_
    obtain ⟨g0, g1, g2⟩ := qe3 hf
    exact r_zret2 O E g0 (by rw [g1, g2]) rfl dX7_readItem_186
  have B86 : ∀ n : Nat, ∀ (w_t : Pk) (w_o : Pk) (y1 : Int32) (y3 : Int32) (y4 : Int32) (y5 : Int32), fX7_readItem_b86 n w_t w_o y1 y3 y4 y5 = some (r0, v_t, v_o) → BK X 6 0 0 86 ([nX7 cI cZ cQ h_t w_t, nX8 cI cZ cQ h_o w_o]) [(0, .ref (h_t 0)), (1, .int y1), (2, .ref (h_o 0)), (3, .int y3), (4, .int y4), (5, .int y5)] [] := by
    intro n
    induction n with
    | zero => exact fun _ _ _ _ _ _ hf => qno hf
    | succ n hrec86 =>
      intro w_t w_o y1 y3 y4 y5 hf
      have hf : fX7_readItem_b86_s (fX7_readItem_b86 n) w_t w_o y1 y3 y4 y5 = some (r0, v_t, v_o) := hf
      generalize fX7_readItem_b86 n = rec86 at hf hrec86
      unfold fX7_readItem_b86_s at hf
      refine r_ild O 88 rfl 5 rfl dX7_readItem_86 ?_
      refine r_ic O 89 rfl 4 (by decide) dX7_readItem_88 ?_
      refine r_icmp_ge O 92 rfl 110 dX7_readItem_89 (by decide) (fun hc89 => ?_) (fun hc89 => ?_)
      · rw [if_pos hc89] at hf
        refine r_ald_n O 111 rfl 0 rfl dX7_readItem_110 ?_
        refine r_get (ref := RX7) (C := RX7) (T := TX7) (N := 7) O 114 rfl inBX7 0 1 rfl rfl rfl (by decide) flX7_15 rfl rfl dX7_readItem_111 ?_
        refine r_ic O 115 rfl 0 (by decide) dX7_readItem_114 ?_
        obtain ⟨x115, ex115, hin115, hf⟩ := qld_some hf
        refine r_iald O 116 rfl 0 2 rfl rfl hin115 dX7_readItem_115 ?_
        rw [← ex115]
        refine r_ald_n O 117 rfl 0 rfl dX7_readItem_116 ?_
        refine r_get (ref := RX7) (C := RX7) (T := TX7) (N := 7) O 120 rfl inBX7 0 1 rfl rfl rfl (by decide) flX7_15 rfl rfl dX7_readItem_117 ?_
        refine r_ic O 121 rfl 2 (by decide) dX7_readItem_120 ?_
        obtain ⟨x121, ex121, hin121, hf⟩ := qld_some hf
        refine r_iald O 122 rfl 0 2 rfl rfl hin121 dX7_readItem_121 ?_
        rw [← ex121]
        refine r_icmp_ne O 125 rfl 153 dX7_readItem_122 (by decide) (fun hc122 => ?_) (fun hc122 => ?_)
        · rw [if_neg hc122] at hf
          refine r_lv [0, 1, 2, 3, 4] rfl ?_
          exact B153 _ _ _ _ _ hf
        · rw [if_pos hc122] at hf
          refine r_ald_n O 126 rfl 0 rfl dX7_readItem_125 ?_
          refine r_get (ref := RX7) (C := RX7) (T := TX7) (N := 7) O 129 rfl inBX7 0 1 rfl rfl rfl (by decide) flX7_15 rfl rfl dX7_readItem_126 ?_
          refine r_ic O 130 rfl 1 (by decide) dX7_readItem_129 ?_
          obtain ⟨x130, ex130, hin130, hf⟩ := qld_some hf
          refine r_iald O 131 rfl 0 2 rfl rfl hin130 dX7_readItem_130 ?_
          rw [← ex130]
          refine r_ald_n O 132 rfl 0 rfl dX7_readItem_131 ?_
          refine r_get (ref := RX7) (C := RX7) (T := TX7) (N := 7) O 135 rfl inBX7 0 1 rfl rfl rfl (by decide) flX7_15 rfl rfl dX7_readItem_132 ?_
          refine r_ic O 136 rfl 3 (by decide) dX7_readItem_135 ?_
          obtain ⟨x136, ex136, hin136, hf⟩ := qld_some hf
          refine r_iald O 137 rfl 0 2 rfl rfl hin136 dX7_readItem_136 ?_
          rw [← ex136]
          refine r_icmp_ne O 140 rfl 153 dX7_readItem_137 (by decide) (fun hc137 => ?_) (fun hc137 => ?_)
          · rw [if_neg hc137] at hf
            refine r_lv [0, 1, 2, 3, 4] rfl ?_
            exact B153 _ _ _ _ _ hf
          · rw [if_pos hc137] at hf
            refine r_ald_n O 141 rfl 0 rfl dX7_readItem_140 ?_
            refine r_ic O 142 rfl 3 (by decide) dX7_readItem_141 ?_
            refine r_ald_n O 143 rfl 0 rfl dX7_readItem_142 ?_
            refine r_get (ref := RX7) (C := RX7) (T := TX7) (N := 7) O 146 rfl inBX7 0 3 rfl rfl rfl (by decide) flX7_22 rfl rfl dX7_readItem_143 ?_
            refine r_ic O 147 rfl 1 (by decide) dX7_readItem_146 ?_
            refine r_isub O 148 rfl dX7_readItem_147 ?_
            refine r_ild_n O 149 rfl 1 rfl dX7_readItem_148 ?_
            obtain ⟨x149, p149_t, hq149, hf⟩ := qb2_some hf
            refine k_VZ O 152 rfl (zX7_fault (l := xl X) (D := xD X) (cI := cI) (cZ := cZ) (cQ := cQ) (h_t := h_t) hq149) (gV mlX7_50 mvX7_fault izX7) rfl rfl rfl hdX7_fault ⟨Nat.le_of_ble_eq_true rfl, Nat.le_of_ble_eq_true rfl⟩ rfl 0 rfl rfl rfl rfl (Nat.le_of_ble_eq_true rfl) ⟨Nat.zero_le _, Nat.zero_le _⟩ [0] rfl rfl rfl ([nX7 cI cZ cQ h_t p149_t, nX8 cI cZ cQ h_o w_o]) rfl dX7_readItem_149 (fun hz149 => ?_)
            obtain ⟨g0, g1, g2⟩ := qe3 hf
            exact r_zret2 O E g0 (by rw [g1, g2]) hz149 dX7_readItem_152
      · rw [if_neg hc89] at hf
        refine r_ald_n O 93 rfl 0 rfl dX7_readItem_92 ?_
        refine r_ild O 95 rfl 5 rfl dX7_readItem_93 ?_
        refine r_ild_n O 96 rfl 1 rfl dX7_readItem_95 ?_
        obtain ⟨x96, p96_t, hq96, hf⟩ := qb2_some hf
        refine k_VZ O 99 rfl (zX7_readNumber (l := xl X) (D := xD X) (cI := cI) (cZ := cZ) (cQ := cQ) (h_t := h_t) hq96) (gV mlX7_54 mvX7_readNumber izX7) rfl rfl rfl hdX7_readNumber ⟨Nat.le_of_ble_eq_true rfl, Nat.le_of_ble_eq_true rfl⟩ rfl 0 rfl rfl rfl rfl (Nat.le_of_ble_eq_true rfl) ⟨Nat.zero_le _, Nat.zero_le _⟩ [0] rfl rfl rfl ([nX7 cI cZ cQ h_t p96_t, nX8 cI cZ cQ h_o w_o]) rfl dX7_readItem_96 (fun hz96 => ?_)
        refine r_if_ne O 102 rfl 104 dX7_readItem_99 (by decide) (fun hc99 => ?_) (fun hc99 => ?_)
        · rw [if_neg hc99] at hf
          obtain ⟨x104, ex104, hf⟩ := qn_some hf
          refine r_iinc O 107 rfl x104 5 rfl (by rw [ex104]; rfl) [(5, .int x104), (0, .ref (h_t 0)), (1, .int y1), (2, .ref (h_o 0)), (3, .int y3), (4, .int y4)] dX7_readItem_104 (by decide) rfl ?_
          refine r_goto O 86 dX7_readItem_107 (by decide) ?_
          refine r_lv [1, 2, 3, 4, 5, 0] rfl ?_
          exact hrec86 _ _ _ _ _ _ hf
        · rw [if_pos hc99] at hf
          refine r_ic O 103 rfl 0 (by decide) dX7_readItem_102 ?_
          obtain ⟨g0, g1, g2⟩ := qe3 hf
          exact r_zret2 O E g0 (by rw [g1, g2]) rfl dX7_readItem_103
  have B83 : ∀ (w_t : Pk) (w_o : Pk) (y1 : Int32) (y3 : Int32) (y4 : Int32), fX7_readItem_b83 w_t w_o y1 y3 y4 = some (r0, v_t, v_o) → BK X 6 0 0 83 ([nX7 cI cZ cQ h_t w_t, nX8 cI cZ cQ h_o w_o]) [(0, .ref (h_t 0)), (1, .int y1), (2, .ref (h_o 0)), (3, .int y3), (4, .int y4)] [] := by
    intro w_t w_o y1 y3 y4 hf
    unfold fX7_readItem_b83 at hf
    refine r_ic O 84 rfl 0 (by decide) dX7_readItem_83 ?_
    refine r_ist O 86 rfl [(5, .int 0), (0, .ref (h_t 0)), (1, .int y1), (2, .ref (h_o 0)), (3, .int y3), (4, .int y4)] dX7_readItem_84 (by decide) rfl ?_
    refine r_lv [1, 2, 3, 4, 5, 0] rfl ?_
    exact B86 FU _ _ _ _ _ _ hf
  unfold fX7_readItem at hf
  refine r_ald_n O 1 rfl 0 rfl dX7_readItem_0 ?_
  refine r_ald_n O 2 rfl 0 rfl dX7_readItem_1 ?_
  refine r_get (ref := RX7) (C := RX7) (T := TX7) (N := 7) O 5 rfl inBX7 0 3 rfl rfl rfl (by decide) flX7_22 rfl rfl dX7_readItem_2 ?_
  obtain ⟨x5, hq5, hf⟩ := qb1_some hf
  refine k_VI O 8 rfl (zX7_codeAt (l := xl X) (D := xD X) (cI := cI) (cZ := cZ) (cQ := cQ) (h_t := h_t) hq5) (gV mlX7_43 mvX7_codeAt izX7) rfl rfl rfl hdX7_codeAt ⟨Nat.le_of_ble_eq_true rfl, Nat.le_of_ble_eq_true rfl⟩ rfl 0 rfl rfl rfl rfl (Nat.le_of_ble_eq_true rfl) ⟨Nat.zero_le _, Nat.zero_le _⟩ [0] rfl rfl rfl ([nX7 cI cZ cQ h_t u_t, nX8 cI cZ cQ h_o u_o]) rfl dX7_readItem_5 ?_
  obtain ⟨x8, hq8, hf⟩ := qb1_some hf
  refine k_SI O 11 rfl (zX7_kindOfLetter (l := xl X) (D := xD X) (cI := cI) (cZ := cZ) (cQ := cQ) hq8) (gS mlX7_47 mvX7_kindOfLetter izX7) rfl rfl rfl hdX7_kindOfLetter ⟨Nat.le_of_ble_eq_true rfl, Nat.le_of_ble_eq_true rfl⟩ rfl rfl (Nat.le_of_ble_eq_true rfl) ⟨Nat.zero_le _, Nat.zero_le _⟩ [] rfl rfl rfl ([nX7 cI cZ cQ h_t u_t, nX8 cI cZ cQ h_o u_o]) rfl dX7_readItem_8 ?_
  refine r_ist_n O 12 rfl rfl [(3, .int x8), (0, .ref (h_t 0)), (1, .int a1), (2, .ref (h_o 0))] dX7_readItem_11 (by decide) rfl ?_
  refine r_ild_n O 13 rfl 0 rfl dX7_readItem_12 ?_
  refine r_if_ge O 16 rfl 27 dX7_readItem_13 (by decide) (fun hc13 => ?_) (fun hc13 => ?_)
  · rw [if_pos hc13] at hf
    refine r_ild_n O 28 rfl 2 rfl dX7_readItem_27 ?_
    refine r_bi O 30 rfl 12 (by decide) dX7_readItem_28 ?_
    refine r_icmp_lt O 33 rfl 44 dX7_readItem_30 (by decide) (fun hc30 => ?_) (fun hc30 => ?_)
    · rw [if_pos hc30] at hf
      refine r_ald_n O 45 rfl 1 rfl dX7_readItem_44 ?_
      refine r_dup O 46 rfl dX7_readItem_45 rfl ?_
      refine r_get (ref := RX7) (C := RX7) (T := TX7) (N := 7) O 49 rfl inBX7 0 3 rfl rfl rfl (by decide) flX7_22 rfl rfl dX7_readItem_46 ?_
      refine r_ic O 50 rfl 1 (by decide) dX7_readItem_49 ?_
      refine r_iadd O 51 rfl dX7_readItem_50 ?_
      obtain ⟨p51_t, ep51_t, hf⟩ := qn_some hf
      refine r_put (ref := RX7) (C := RX7) (T := TX7) (N := 7) O 54 rfl inBX7 tyX7 tyX7_ok nmX7 0 3 rfl rfl rfl (by decide) flX7_22 rfl rfl rfl rfl (Nat.le_of_ble_eq_true rfl) ([nX7 cI cZ cQ h_t p51_t, nX8 cI cZ cQ h_o u_o]) (by rw [ep51_t]; rfl) dX7_readItem_51 ?_
      refine r_ic O 55 rfl 0 (by decide) dX7_readItem_54 ?_
      refine r_ist O 57 rfl [(4, .int 0), (3, .int x8), (0, .ref (h_t 0)), (1, .int a1), (2, .ref (h_o 0))] dX7_readItem_55 (by decide) rfl ?_
      refine r_ald_n O 58 rfl 2 rfl dX7_readItem_57 ?_
      refine r_ald_n O 59 rfl 2 rfl dX7_readItem_58 ?_
      refine r_get (ref := RX7) (C := RX7) (T := TX7) (N := 7) O 62 rfl inBX7 0 3 rfl rfl rfl (by decide) flX7_22 rfl rfl dX7_readItem_59 ?_
      obtain ⟨x62, hq62, hf⟩ := qb1_some hf
      refine k_VI O 65 rfl (zX7_codeAt (l := xl X) (D := xD X) (cI := cI) (cZ := cZ) (cQ := cQ) (h_t := h_t) hq62) (gV mlX7_43 mvX7_codeAt izX7) rfl rfl rfl hdX7_codeAt ⟨Nat.le_of_ble_eq_true rfl, Nat.le_of_ble_eq_true rfl⟩ rfl 0 rfl rfl rfl rfl (Nat.le_of_ble_eq_true rfl) ⟨Nat.zero_le _, Nat.zero_le _⟩ [0] rfl rfl rfl ([nX7 cI cZ cQ h_t p51_t, nX8 cI cZ cQ h_o u_o]) rfl dX7_readItem_62 ?_
      refine r_bi O 67 rfl 109 (by decide) dX7_readItem_65 ?_
      refine r_icmp_ne O 70 rfl 83 dX7_readItem_67 (by decide) (fun hc67 => ?_) (fun hc67 => ?_)
      · rw [if_neg hc67] at hf
        refine r_lv [2, 3, 4, 1, 0] rfl ?_
        exact B83 _ _ _ _ _ hf
      · rw [if_pos hc67] at hf
        refine r_ic O 71 rfl 1 (by decide) dX7_readItem_70 ?_
        refine r_ist O 73 rfl [(4, .int 1), (3, .int x8), (0, .ref (h_t 0)), (1, .int a1), (2, .ref (h_o 0))] dX7_readItem_71 (by decide) rfl ?_
        refine r_ald_n O 74 rfl 2 rfl dX7_readItem_73 ?_
        refine r_dup O 75 rfl dX7_readItem_74 rfl ?_
        refine r_get (ref := RX7) (C := RX7) (T := TX7) (N := 7) O 78 rfl inBX7 0 3 rfl rfl rfl (by decide) flX7_22 rfl rfl dX7_readItem_75 ?_
        refine r_ic O 79 rfl 1 (by decide) dX7_readItem_78 ?_
        refine r_iadd O 80 rfl dX7_readItem_79 ?_
        obtain ⟨p80_t, ep80_t, hf⟩ := qn_some hf
        refine r_put (ref := RX7) (C := RX7) (T := TX7) (N := 7) O 83 rfl inBX7 tyX7 tyX7_ok nmX7 0 3 rfl rfl rfl (by decide) flX7_22 rfl rfl rfl rfl (Nat.le_of_ble_eq_true rfl) ([nX7 cI cZ cQ h_t p80_t, nX8 cI cZ cQ h_o u_o]) (by rw [ep80_t]; rfl) dX7_readItem_80 ?_
        refine r_lv [2, 3, 4, 1, 0] rfl ?_
        exact B83 _ _ _ _ _ hf
    · rw [if_neg hc30] at hf
      refine r_ald_n O 34 rfl 1 rfl dX7_readItem_33 ?_
      refine r_ic O 35 rfl 4 (by decide) dX7_readItem_34 ?_
      refine r_ald_n O 36 rfl 1 rfl dX7_readItem_35 ?_
      refine r_get (ref := RX7) (C := RX7) (T := TX7) (N := 7) O 39 rfl inBX7 0 3 rfl rfl rfl (by decide) flX7_22 rfl rfl dX7_readItem_36 ?_
      refine r_ild_n O 40 rfl 2 rfl dX7_readItem_39 ?_
      obtain ⟨x40, p40_t, hq40, hf⟩ := qb2_some hf
      refine k_VZ O 43 rfl (zX7_fault (l := xl X) (D := xD X) (cI := cI) (cZ := cZ) (cQ := cQ) (h_t := h_t) hq40) (gV mlX7_50 mvX7_fault izX7) rfl rfl rfl hdX7_fault ⟨Nat.le_of_ble_eq_true rfl, Nat.le_of_ble_eq_true rfl⟩ rfl 0 rfl rfl rfl rfl (Nat.le_of_ble_eq_true rfl) ⟨Nat.zero_le _, Nat.zero_le _⟩ [0] rfl rfl rfl ([nX7 cI cZ cQ h_t p40_t, nX8 cI cZ cQ h_o u_o]) rfl dX7_readItem_40 (fun hz40 => ?_)
      obtain ⟨g0, g1, g2⟩ := qe3 hf
      exact r_zret2 O E g0 (by rw [g1, g2]) hz40 dX7_readItem_43
  · rw [if_neg hc13] at hf
    refine r_ald_n O 17 rfl 1 rfl dX7_readItem_16 ?_
    refine r_ic O 18 rfl 1 (by decide) dX7_readItem_17 ?_
    refine r_ald_n O 19 rfl 1 rfl dX7_readItem_18 ?_
    refine r_get (ref := RX7) (C := RX7) (T := TX7) (N := 7) O 22 rfl inBX7 0 3 rfl rfl rfl (by decide) flX7_22 rfl rfl dX7_readItem_19 ?_
    refine r_ild_n O 23 rfl 2 rfl dX7_readItem_22 ?_
    obtain ⟨x23, p23_t, hq23, hf⟩ := qb2_some hf
    refine k_VZ O 26 rfl (zX7_fault (l := xl X) (D := xD X) (cI := cI) (cZ := cZ) (cQ := cQ) (h_t := h_t) hq23) (gV mlX7_50 mvX7_fault izX7) rfl rfl rfl hdX7_fault ⟨Nat.le_of_ble_eq_true rfl, Nat.le_of_ble_eq_true rfl⟩ rfl 0 rfl rfl rfl rfl (Nat.le_of_ble_eq_true rfl) ⟨Nat.zero_le _, Nat.zero_le _⟩ [0] rfl rfl rfl ([nX7 cI cZ cQ h_t p23_t, nX8 cI cZ cQ h_o u_o]) rfl dX7_readItem_23 (fun hz23 => ?_)
    obtain ⟨g0, g1, g2⟩ := qe3 hf
    exact r_zret2 O E g0 (by rw [g1, g2]) hz23 dX7_readItem_26
-- X7_readInto
def rmX7_readInto : Room := { frames := 3, cells := 0, slots := 0, locals := 72 }
set_option maxHeartbeats 4000000 in
set_option maxRecDepth 100000 in
theorem zX7_readInto {l : Launch} {D : va_G} {cI cZ cQ : ClassId} {h_t h_o : Nat → Nat} {u_t u_o : Pk} {r0 : Int32} {v_t v_o : Pk} (hf : fX7_readInto u_t u_o = some (r0, v_t, v_o)) : MZ l yX7_readInto wsX7_readInto rmX7_readInto D (TY cI cZ cQ) [.ref (h_t 0), .ref (h_o 0)] [nX7 cI cZ cQ h_t u_t, nX8 cI cZ cQ h_o u_o] r0 [nX7 cI cZ cQ h_t v_t, nX8 cI cZ cQ h_o v_o] := by
  refine MZ.of (own := RX7) (by decide +kernel) rfl rfl (Nat.le_of_ble_eq_true rfl) (lv0 := [(0, .ref (h_t 0)), (1, .ref (h_o 0))]) rfl ?_
  intro X O E
  have B11 : ∀ n : Nat, ∀ (w_t : Pk) (w_o : Pk) (y2 : Int32), fX7_readInto_b11 n w_t w_o y2 = some (r0, v_t, v_o) → BK X 3 0 0 11 ([nX7 cI cZ cQ h_t w_t, nX8 cI cZ cQ h_o w_o]) [(0, .ref (h_t 0)), (1, .ref (h_o 0)), (2, .int y2)] [] := by
    intro n
    induction n with
    | zero => exact fun _ _ _ hf => qno hf
    | succ n hrec11 =>
      intro w_t w_o y2 hf
      have hf : fX7_readInto_b11_s (fX7_readInto_b11 n) w_t w_o y2 = some (r0, v_t, v_o) := hf
      generalize fX7_readInto_b11 n = rec11 at hf hrec11
      unfold fX7_readInto_b11_s at hf
      refine r_ild_n O 12 rfl 2 rfl dX7_readInto_11 ?_
      refine r_bi O 14 rfl 12 (by decide) dX7_readInto_12 ?_
      refine r_icmp_gt O 17 rfl 45 dX7_readInto_14 (by decide) (fun hc14 => ?_) (fun hc14 => ?_)
      · rw [if_pos hc14] at hf
        refine r_ic O 46 rfl 1 (by decide) dX7_readInto_45 ?_
        obtain ⟨g0, g1, g2⟩ := qe3 hf
        exact r_zret2 O E g0 (by rw [g1, g2]) rfl dX7_readInto_46
      · rw [if_neg hc14] at hf
        refine r_ald_n O 18 rfl 0 rfl dX7_readInto_17 ?_
        refine r_get (ref := RX7) (C := RX7) (T := TX7) (N := 7) O 21 rfl inBX7 0 3 rfl rfl rfl (by decide) flX7_22 rfl rfl dX7_readInto_18 ?_
        refine r_ald_n O 22 rfl 0 rfl dX7_readInto_21 ?_
        refine r_get (ref := RX7) (C := RX7) (T := TX7) (N := 7) O 25 rfl inBX7 0 2 rfl rfl rfl (by decide) flX7_18 rfl rfl dX7_readInto_22 ?_
        refine r_icmp_ge O 28 rfl 45 dX7_readInto_25 (by decide) (fun hc25 => ?_) (fun hc25 => ?_)
        · rw [if_pos hc25] at hf
          refine r_ic O 46 rfl 1 (by decide) dX7_readInto_45 ?_
          obtain ⟨g0, g1, g2⟩ := qe3 hf
          exact r_zret2 O E g0 (by rw [g1, g2]) rfl dX7_readInto_46
        · rw [if_neg hc25] at hf
          refine r_ald_n O 29 rfl 0 rfl dX7_readInto_28 ?_
          refine r_ild_n O 30 rfl 2 rfl dX7_readInto_29 ?_
          refine r_ald_n O 31 rfl 1 rfl dX7_readInto_30 ?_
          obtain ⟨x31, p31_t, p31_o, hq31, hf⟩ := qb3_some hf
          refine k_VZ O 34 rfl (zX7_readItem (l := xl X) (D := xD X) (cI := cI) (cZ := cZ) (cQ := cQ) (h_t := h_t) (h_o := h_o) hq31) (gV mlX7_39 mvX7_readItem izX7) rfl rfl rfl hdX7_readItem ⟨Nat.le_of_ble_eq_true rfl, Nat.le_of_ble_eq_true rfl⟩ rfl 0 rfl rfl rfl rfl (Nat.le_of_ble_eq_true rfl) ⟨Nat.zero_le _, Nat.zero_le _⟩ [0, 1] rfl rfl rfl ([nX7 cI cZ cQ h_t p31_t, nX8 cI cZ cQ h_o p31_o]) rfl dX7_readInto_31 (fun hz31 => ?_)
          refine r_if_ne O 37 rfl 39 dX7_readInto_34 (by decide) (fun hc34 => ?_) (fun hc34 => ?_)
          · rw [if_neg hc34] at hf
            obtain ⟨x39, ex39, hf⟩ := qn_some hf
            refine r_iinc O 42 rfl x39 2 rfl (by rw [ex39]; rfl) [(2, .int x39), (0, .ref (h_t 0)), (1, .ref (h_o 0))] dX7_readInto_39 (by decide) rfl ?_
            refine r_goto O 11 dX7_readInto_42 (by decide) ?_
            refine r_lv [1, 2, 0] rfl ?_
            exact hrec11 _ _ _ hf
          · rw [if_pos hc34] at hf
            refine r_ic O 38 rfl 0 (by decide) dX7_readInto_37 ?_
            obtain ⟨g0, g1, g2⟩ := qe3 hf
            exact r_zret2 O E g0 (by rw [g1, g2]) rfl dX7_readInto_38
  unfold fX7_readInto at hf
  refine r_ald_n O 1 rfl 1 rfl dX7_readInto_0 ?_
  obtain ⟨p1_o, hq1, hf⟩ := qb1_some hf
  refine k_VV O 4 rfl (zX8_dropAll (l := xl X) (D := xD X) (cI := cI) (cZ := cZ) (cQ := cQ) (h_t := h_o) hq1) (gV mlX7_34 mvX8_dropAll izX8) rfl rfl rfl hdX8_dropAll ⟨Nat.le_of_ble_eq_true rfl, Nat.le_of_ble_eq_true rfl⟩ rfl 1 rfl rfl rfl rfl (Nat.le_of_ble_eq_true rfl) ⟨Nat.zero_le _, Nat.zero_le _⟩ [1] rfl rfl rfl ([nX7 cI cZ cQ h_t u_t, nX8 cI cZ cQ h_o p1_o]) rfl dX7_readInto_1 ?_
  refine r_ald_n O 5 rfl 0 rfl dX7_readInto_4 ?_
  refine r_ic O 6 rfl 0 (by decide) dX7_readInto_5 ?_
  obtain ⟨p6_t, ep6_t, hf⟩ := qn_some hf
  refine r_put (ref := RX7) (C := RX7) (T := TX7) (N := 7) O 9 rfl inBX7 tyX7 tyX7_ok nmX7 0 3 rfl rfl rfl (by decide) flX7_22 rfl rfl rfl rfl (Nat.le_of_ble_eq_true rfl) ([nX7 cI cZ cQ h_t p6_t, nX8 cI cZ cQ h_o p1_o]) (by rw [ep6_t]; rfl) dX7_readInto_6 ?_
  refine r_ic O 10 rfl 0 (by decide) dX7_readInto_9 ?_
  refine r_ist_n O 11 rfl rfl [(2, .int 0), (0, .ref (h_t 0)), (1, .ref (h_o 0))] dX7_readInto_10 (by decide) rfl ?_
  refine r_lv [1, 2, 0] rfl ?_
  exact B11 FU _ _ _ hf
