-- X10_countBuild
def rmX10_countBuild : Room := { frames := 1, cells := 0, slots := 0, locals := 22 }
set_option maxHeartbeats 4000000 in
set_option maxRecDepth 100000 in
theorem zX10_countBuild {l : Launch} {D : va_G} {cI cZ cQ : ClassId} {h_t : Nat → Nat} {u_t : Pk} {v_t : Pk} (hf : fX10_countBuild u_t = some v_t) : MV l yX10_countBuild wsX10_countBuild rmX10_countBuild D (TY cI cZ cQ) [.ref (h_t 0)] [nX10 cI cZ cQ h_t u_t] [nX10 cI cZ cQ h_t v_t] := by
  refine MV.of (own := RX10) (by decide +kernel) rfl rfl (Nat.le_of_ble_eq_true rfl) (lv0 := [(0, .ref (h_t 0))]) rfl ?_
  intro X O E
  have B217 : ∀ (rec176 : Pk → Int32 → Option (Pk)), (∀ (w_t : Pk) (y2 : Int32), rec176 w_t y2 = some v_t → BK X 5 0 0 176 ([nX10 cI cZ cQ h_t w_t]) [(0, .ref (h_t 0)), (2, .int y2)] []) → ∀ n : Nat, ∀ (w_t : Pk) (y2 : Int32) (y3 : Int32), fX10_countBuild_b217 rec176 n w_t y2 y3 = some v_t → BK X 5 0 0 217 ([nX10 cI cZ cQ h_t w_t]) [(0, .ref (h_t 0)), (2, .int y2), (3, .int y3)] [] := by
    intro rec176 hrec176
    intro n
    induction n with
    | zero => exact fun _ _ _ hf => qno hf
    | succ n hrec217 =>
      intro w_t y2 y3 hf
      have hf : fX10_countBuild_b217_s rec176 (fX10_countBuild_b217 rec176 n) w_t y2 y3 = some v_t := hf
      generalize fX10_countBuild_b217 rec176 n = rec217 at hf hrec217
      unfold fX10_countBuild_b217_s at hf
      refine r_ild_n O 218 rfl 2 rfl dX10_countBuild_217 ?_
      refine r_ic O 219 rfl 4 (by decide) dX10_countBuild_218 ?_
      refine r_icmp_gt O 222 rfl 244 dX10_countBuild_219 (by decide) (fun hc219 => ?_) (fun hc219 => ?_)
      · rw [if_pos hc219] at hf
        obtain ⟨x244, ex244, hf⟩ := qn_some hf
        refine r_iinc O 247 rfl x244 1 rfl (by rw [ex244]; rfl) [(2, .int x244), (0, .ref (h_t 0)), (3, .int y3)] dX10_countBuild_244 (by decide) rfl ?_
        refine r_goto O 176 dX10_countBuild_247 (by decide) ?_
        refine r_lv [1, 0] rfl ?_
        exact hrec176 _ _ hf
      · rw [if_neg hc219] at hf
        refine r_ald_n O 223 rfl 0 rfl dX10_countBuild_222 ?_
        refine r_get (ref := RX10) (C := RX10) (T := TX10) (N := 70) O 226 rfl inBX10 0 10 rfl rfl rfl (by decide) flX10_35 rfl rfl dX10_countBuild_223 ?_
        refine r_ic O 227 rfl 5 (by decide) dX10_countBuild_226 ?_
        refine r_ild_n O 228 rfl 1 rfl dX10_countBuild_227 ?_
        refine r_imul O 229 rfl dX10_countBuild_228 ?_
        refine r_ild_n O 230 rfl 2 rfl dX10_countBuild_229 ?_
        refine r_iadd O 231 rfl dX10_countBuild_230 ?_
        refine r_ald_n O 232 rfl 0 rfl dX10_countBuild_231 ?_
        refine r_ild_n O 233 rfl 1 rfl dX10_countBuild_232 ?_
        refine r_ild_n O 234 rfl 2 rfl dX10_countBuild_233 ?_
        obtain ⟨x234, hq234, hf⟩ := qb1_some hf
        refine k_VI O 237 rfl (zX10_at (l := xl X) (D := xD X) (cI := cI) (cZ := cZ) (cQ := cQ) (h_t := h_t) hq234) (gV mlX10_129 mvX10_at izX10) rfl rfl rfl hdX10_at ⟨Nat.le_of_ble_eq_true rfl, Nat.le_of_ble_eq_true rfl⟩ rfl 0 rfl rfl rfl rfl (Nat.le_of_ble_eq_true rfl) ⟨Nat.zero_le _, Nat.zero_le _⟩ [0] rfl rfl rfl ([nX10 cI cZ cQ h_t w_t]) rfl dX10_countBuild_234 ?_
        obtain ⟨hin237, hf⟩ := qst_some hf
        obtain ⟨p237_t, ep237_t, hf⟩ := qn_some hf
        refine r_iast O 238 rfl 0 4 rfl rfl hin237 ([nX10 cI cZ cQ h_t p237_t]) (by rw [ep237_t]; rfl) dX10_countBuild_237 ?_
        obtain ⟨x238, ex238, hf⟩ := qn_some hf
        refine r_iinc O 241 rfl x238 2 rfl (by rw [ex238]; rfl) [(3, .int x238), (0, .ref (h_t 0)), (2, .int y2)] dX10_countBuild_238 (by decide) rfl ?_
        refine r_goto O 217 dX10_countBuild_241 (by decide) ?_
        refine r_lv [1, 2, 0] rfl ?_
        exact hrec217 _ _ _ hf
  have B214 : ∀ (rec176 : Pk → Int32 → Option (Pk)), (∀ (w_t : Pk) (y2 : Int32), rec176 w_t y2 = some v_t → BK X 5 0 0 176 ([nX10 cI cZ cQ h_t w_t]) [(0, .ref (h_t 0)), (2, .int y2)] []) → ∀ (w_t : Pk) (y2 : Int32) (z1 : Int32) (z2 : Int32), fX10_countBuild_b214 rec176 w_t y2 z1 z2 = some v_t → BK X 5 0 0 214 ([nX10 cI cZ cQ h_t w_t]) [(0, .ref (h_t 0)), (2, .int y2)] [.int z2, .int z1, .ref (h_t 11)] := by
    intro rec176 hrec176 w_t y2 z1 z2 hf
    unfold fX10_countBuild_b214 at hf
    obtain ⟨hin214, hf⟩ := qst_some hf
    obtain ⟨p214_t, ep214_t, hf⟩ := qn_some hf
    refine r_iast O 215 rfl 0 4 rfl rfl hin214 ([nX10 cI cZ cQ h_t p214_t]) (by rw [ep214_t]; rfl) dX10_countBuild_214 ?_
    refine r_ic O 216 rfl 1 (by decide) dX10_countBuild_215 ?_
    refine r_ist_n O 217 rfl rfl [(3, .int 1), (0, .ref (h_t 0)), (2, .int y2)] dX10_countBuild_216 (by decide) rfl ?_
    refine r_lv [1, 2, 0] rfl ?_
    exact B217 rec176 hrec176 FU _ _ _ hf
  have B213 : ∀ (rec176 : Pk → Int32 → Option (Pk)), (∀ (w_t : Pk) (y2 : Int32), rec176 w_t y2 = some v_t → BK X 5 0 0 176 ([nX10 cI cZ cQ h_t w_t]) [(0, .ref (h_t 0)), (2, .int y2)] []) → ∀ (w_t : Pk) (y2 : Int32) (z1 : Int32), fX10_countBuild_b213 rec176 w_t y2 z1 = some v_t → BK X 5 0 0 213 ([nX10 cI cZ cQ h_t w_t]) [(0, .ref (h_t 0)), (2, .int y2)] [.int z1, .ref (h_t 11)] := by
    intro rec176 hrec176 w_t y2 z1 hf
    unfold fX10_countBuild_b213 at hf
    refine r_ic O 214 rfl 0 (by decide) dX10_countBuild_213 ?_
    exact B214 rec176 hrec176 _ _ _ _ hf
  have B176 : ∀ n : Nat, ∀ (w_t : Pk) (y2 : Int32), fX10_countBuild_b176 n w_t y2 = some v_t → BK X 5 0 0 176 ([nX10 cI cZ cQ h_t w_t]) [(0, .ref (h_t 0)), (2, .int y2)] [] := by
    intro n
    induction n with
    | zero => exact fun _ _ hf => qno hf
    | succ n hrec176 =>
      intro w_t y2 hf
      have hf : fX10_countBuild_b176_s (fX10_countBuild_b176 n) w_t y2 = some v_t := hf
      generalize fX10_countBuild_b176 n = rec176 at hf hrec176
      unfold fX10_countBuild_b176_s at hf
      refine r_ild_n O 177 rfl 1 rfl dX10_countBuild_176 ?_
      refine r_bi O 179 rfl 12 (by decide) dX10_countBuild_177 ?_
      refine r_icmp_ge O 182 rfl 250 dX10_countBuild_179 (by decide) (fun hc179 => ?_) (fun hc179 => ?_)
      · rw [if_pos hc179] at hf
        obtain g0 := qe1 hf
        exact r_vret2 O E (by rw [g0]) dX10_countBuild_250
      · rw [if_neg hc179] at hf
        refine r_ald_n O 183 rfl 0 rfl dX10_countBuild_182 ?_
        refine r_get (ref := RX10) (C := RX10) (T := TX10) (N := 70) O 186 rfl inBX10 0 10 rfl rfl rfl (by decide) flX10_35 rfl rfl dX10_countBuild_183 ?_
        refine r_ic O 187 rfl 5 (by decide) dX10_countBuild_186 ?_
        refine r_ild_n O 188 rfl 1 rfl dX10_countBuild_187 ?_
        refine r_imul O 189 rfl dX10_countBuild_188 ?_
        refine r_ald_n O 190 rfl 0 rfl dX10_countBuild_189 ?_
        refine r_ild_n O 191 rfl 1 rfl dX10_countBuild_190 ?_
        refine r_ic O 192 rfl 0 (by decide) dX10_countBuild_191 ?_
        obtain ⟨x192, hq192, hf⟩ := qb1_some hf
        refine k_VI O 195 rfl (zX10_at (l := xl X) (D := xD X) (cI := cI) (cZ := cZ) (cQ := cQ) (h_t := h_t) hq192) (gV mlX10_129 mvX10_at izX10) rfl rfl rfl hdX10_at ⟨Nat.le_of_ble_eq_true rfl, Nat.le_of_ble_eq_true rfl⟩ rfl 0 rfl rfl rfl rfl (Nat.le_of_ble_eq_true rfl) ⟨Nat.zero_le _, Nat.zero_le _⟩ [0] rfl rfl rfl ([nX10 cI cZ cQ h_t w_t]) rfl dX10_countBuild_192 ?_
        refine r_ic O 196 rfl 1 (by decide) dX10_countBuild_195 ?_
        refine r_icmp_ne O 199 rfl 213 dX10_countBuild_196 (by decide) (fun hc196 => ?_) (fun hc196 => ?_)
        · rw [if_neg hc196] at hf
          exact B213 rec176 hrec176 _ _ _ hf
        · rw [if_pos hc196] at hf
          refine r_ald_n O 200 rfl 0 rfl dX10_countBuild_199 ?_
          refine r_ild_n O 201 rfl 1 rfl dX10_countBuild_200 ?_
          refine r_bi O 203 rfl 6 (by decide) dX10_countBuild_201 ?_
          obtain ⟨x203, hq203, hf⟩ := qb1_some hf
          refine k_VI O 206 rfl (zX10_at (l := xl X) (D := xD X) (cI := cI) (cZ := cZ) (cQ := cQ) (h_t := h_t) hq203) (gV mlX10_129 mvX10_at izX10) rfl rfl rfl hdX10_at ⟨Nat.le_of_ble_eq_true rfl, Nat.le_of_ble_eq_true rfl⟩ rfl 0 rfl rfl rfl rfl (Nat.le_of_ble_eq_true rfl) ⟨Nat.zero_le _, Nat.zero_le _⟩ [0] rfl rfl rfl ([nX10 cI cZ cQ h_t w_t]) rfl dX10_countBuild_203 ?_
          refine r_if_ne O 209 rfl 213 dX10_countBuild_206 (by decide) (fun hc206 => ?_) (fun hc206 => ?_)
          · rw [if_neg hc206] at hf
            exact B213 rec176 hrec176 _ _ _ hf
          · rw [if_pos hc206] at hf
            refine r_ic O 210 rfl 1 (by decide) dX10_countBuild_209 ?_
            refine r_goto O 214 dX10_countBuild_210 (by decide) ?_
            exact B214 rec176 hrec176 _ _ _ _ hf
  have B138 : ∀ (rec30 : Pk → Int32 → Int32 → Option (Pk)), (∀ (w_t : Pk) (y1 : Int32) (y2 : Int32), rec30 w_t y1 y2 = some v_t → BK X 5 0 0 30 ([nX10 cI cZ cQ h_t w_t]) [(0, .ref (h_t 0)), (1, .int y1), (2, .int y2)] []) → ∀ (w_t : Pk) (y1 : Int32) (y2 : Int32), fX10_countBuild_b138 rec30 w_t y1 y2 = some v_t → BK X 5 0 0 138 ([nX10 cI cZ cQ h_t w_t]) [(0, .ref (h_t 0)), (1, .int y1), (2, .int y2)] [] := by
    intro rec30 hrec30 w_t y1 y2 hf
    unfold fX10_countBuild_b138 at hf
    obtain ⟨x138, ex138, hf⟩ := qn_some hf
    refine r_iinc O 141 rfl x138 2 rfl (by rw [ex138]; rfl) [(2, .int x138), (0, .ref (h_t 0)), (1, .int y1)] dX10_countBuild_138 (by decide) rfl ?_
    refine r_goto O 30 dX10_countBuild_141 (by decide) ?_
    refine r_lv [1, 2, 0] rfl ?_
    exact hrec30 _ _ _ hf
  have B130 : ∀ (rec30 : Pk → Int32 → Int32 → Option (Pk)), (∀ (w_t : Pk) (y1 : Int32) (y2 : Int32), rec30 w_t y1 y2 = some v_t → BK X 5 0 0 30 ([nX10 cI cZ cQ h_t w_t]) [(0, .ref (h_t 0)), (1, .int y1), (2, .int y2)] []) → ∀ (rec93 : Pk → Int32 → Int32 → Int32 → Int32 → Option (Pk)), (∀ (w_t : Pk) (y1 : Int32) (y2 : Int32) (y3 : Int32) (y4 : Int32), rec93 w_t y1 y2 y3 y4 = some v_t → BK X 5 0 0 93 ([nX10 cI cZ cQ h_t w_t]) [(0, .ref (h_t 0)), (1, .int y1), (2, .int y2), (3, .int y3), (4, .int y4)] []) → ∀ (w_t : Pk) (y2 : Int32) (y3 : Int32) (y4 : Int32) (z0 : Int32) (z1 : Int32), fX10_countBuild_b130 rec30 rec93 w_t y2 y3 y4 z0 z1 = some v_t → BK X 5 0 0 130 ([nX10 cI cZ cQ h_t w_t]) [(0, .ref (h_t 0)), (2, .int y2), (3, .int y3), (4, .int y4)] [.int z1, .int z0] := by
    intro rec30 hrec30 rec93 hrec93 w_t y2 y3 y4 z0 z1 hf
    unfold fX10_countBuild_b130 at hf
    refine r_iand O 131 rfl dX10_countBuild_130 ?_
    obtain ⟨x131, ex131, hf⟩ := qn_some hf
    rw [← ex131]
    refine r_ist_n O 132 rfl rfl [(1, .int x131), (0, .ref (h_t 0)), (2, .int y2), (3, .int y3), (4, .int y4)] dX10_countBuild_131 (by decide) rfl ?_
    obtain ⟨x132, ex132, hf⟩ := qn_some hf
    refine r_iinc O 135 rfl x132 4 rfl (by rw [ex132]; rfl) [(4, .int x132), (1, .int x131), (0, .ref (h_t 0)), (2, .int y2), (3, .int y3)] dX10_countBuild_132 (by decide) rfl ?_
    refine r_goto O 93 dX10_countBuild_135 (by decide) ?_
    refine r_lv [2, 1, 3, 4, 0] rfl ?_
    exact hrec93 _ _ _ _ _ hf
  have B93 : ∀ (rec30 : Pk → Int32 → Int32 → Option (Pk)), (∀ (w_t : Pk) (y1 : Int32) (y2 : Int32), rec30 w_t y1 y2 = some v_t → BK X 5 0 0 30 ([nX10 cI cZ cQ h_t w_t]) [(0, .ref (h_t 0)), (1, .int y1), (2, .int y2)] []) → ∀ n : Nat, ∀ (w_t : Pk) (y1 : Int32) (y2 : Int32) (y3 : Int32) (y4 : Int32), fX10_countBuild_b93 rec30 n w_t y1 y2 y3 y4 = some v_t → BK X 5 0 0 93 ([nX10 cI cZ cQ h_t w_t]) [(0, .ref (h_t 0)), (1, .int y1), (2, .int y2), (3, .int y3), (4, .int y4)] [] := by
    intro rec30 hrec30
    intro n
    induction n with
    | zero => exact fun _ _ _ _ _ hf => qno hf
    | succ n hrec93 =>
      intro w_t y1 y2 y3 y4 hf
      have hf : fX10_countBuild_b93_s rec30 (fX10_countBuild_b93 rec30 n) w_t y1 y2 y3 y4 = some v_t := hf
      generalize fX10_countBuild_b93 rec30 n = rec93 at hf hrec93
      unfold fX10_countBuild_b93_s at hf
      refine r_ild O 95 rfl 4 rfl dX10_countBuild_93 ?_
      refine r_ic O 96 rfl 4 (by decide) dX10_countBuild_95 ?_
      refine r_icmp_gt O 99 rfl 138 dX10_countBuild_96 (by decide) (fun hc96 => ?_) (fun hc96 => ?_)
      · rw [if_pos hc96] at hf
        refine r_lv [0, 1, 2] rfl ?_
        exact B138 rec30 hrec30 _ _ _ hf
      · rw [if_neg hc96] at hf
        refine r_ild_n O 100 rfl 3 rfl dX10_countBuild_99 ?_
        refine r_if_eq O 103 rfl 138 dX10_countBuild_100 (by decide) (fun hc100 => ?_) (fun hc100 => ?_)
        · rw [if_pos hc100] at hf
          refine r_lv [0, 1, 2] rfl ?_
          exact B138 rec30 hrec30 _ _ _ hf
        · rw [if_neg hc100] at hf
          refine r_ild_n O 104 rfl 1 rfl dX10_countBuild_103 ?_
          refine r_ald_n O 105 rfl 0 rfl dX10_countBuild_104 ?_
          refine r_get (ref := RX10) (C := RX10) (T := TX10) (N := 70) O 108 rfl inBX10 0 10 rfl rfl rfl (by decide) flX10_35 rfl rfl dX10_countBuild_105 ?_
          refine r_ic O 109 rfl 5 (by decide) dX10_countBuild_108 ?_
          refine r_ild_n O 110 rfl 2 rfl dX10_countBuild_109 ?_
          refine r_imul O 111 rfl dX10_countBuild_110 ?_
          refine r_ild O 113 rfl 4 rfl dX10_countBuild_111 ?_
          refine r_iadd O 114 rfl dX10_countBuild_113 ?_
          obtain ⟨x114, ex114, hin114, hf⟩ := qld_some hf
          refine r_iald O 115 rfl 0 4 rfl rfl hin114 dX10_countBuild_114 ?_
          rw [← ex114]
          refine r_ald_n O 116 rfl 0 rfl dX10_countBuild_115 ?_
          refine r_ild_n O 117 rfl 2 rfl dX10_countBuild_116 ?_
          refine r_ild O 119 rfl 4 rfl dX10_countBuild_117 ?_
          obtain ⟨x119, hq119, hf⟩ := qb1_some hf
          refine k_VI O 122 rfl (zX10_at (l := xl X) (D := xD X) (cI := cI) (cZ := cZ) (cQ := cQ) (h_t := h_t) hq119) (gV mlX10_129 mvX10_at izX10) rfl rfl rfl hdX10_at ⟨Nat.le_of_ble_eq_true rfl, Nat.le_of_ble_eq_true rfl⟩ rfl 0 rfl rfl rfl rfl (Nat.le_of_ble_eq_true rfl) ⟨Nat.zero_le _, Nat.zero_le _⟩ [0] rfl rfl rfl ([nX10 cI cZ cQ h_t w_t]) rfl dX10_countBuild_119 ?_
          refine r_icmp_ne O 125 rfl 129 dX10_countBuild_122 (by decide) (fun hc122 => ?_) (fun hc122 => ?_)
          · rw [if_neg hc122] at hf
            refine r_ic O 130 rfl 0 (by decide) dX10_countBuild_129 ?_
            refine r_lv [0, 2, 3, 4] rfl ?_
            exact B130 rec30 hrec30 rec93 hrec93 _ _ _ _ _ _ hf
          · rw [if_pos hc122] at hf
            refine r_ic O 126 rfl 1 (by decide) dX10_countBuild_125 ?_
            refine r_goto O 130 dX10_countBuild_126 (by decide) ?_
            refine r_lv [0, 2, 3, 4] rfl ?_
            exact B130 rec30 hrec30 rec93 hrec93 _ _ _ _ _ _ hf
  have B88 : ∀ (rec30 : Pk → Int32 → Int32 → Option (Pk)), (∀ (w_t : Pk) (y1 : Int32) (y2 : Int32), rec30 w_t y1 y2 = some v_t → BK X 5 0 0 30 ([nX10 cI cZ cQ h_t w_t]) [(0, .ref (h_t 0)), (1, .int y1), (2, .int y2)] []) → ∀ (w_t : Pk) (y2 : Int32) (y3 : Int32) (z0 : Int32) (z1 : Int32), fX10_countBuild_b88 rec30 w_t y2 y3 z0 z1 = some v_t → BK X 5 0 0 88 ([nX10 cI cZ cQ h_t w_t]) [(0, .ref (h_t 0)), (2, .int y2), (3, .int y3)] [.int z1, .int z0] := by
    intro rec30 hrec30 w_t y2 y3 z0 z1 hf
    unfold fX10_countBuild_b88 at hf
    refine r_iand O 89 rfl dX10_countBuild_88 ?_
    obtain ⟨x89, ex89, hf⟩ := qn_some hf
    rw [← ex89]
    refine r_ist_n O 90 rfl rfl [(1, .int x89), (0, .ref (h_t 0)), (2, .int y2), (3, .int y3)] dX10_countBuild_89 (by decide) rfl ?_
    refine r_ic O 91 rfl 1 (by decide) dX10_countBuild_90 ?_
    refine r_ist O 93 rfl [(4, .int 1), (1, .int x89), (0, .ref (h_t 0)), (2, .int y2), (3, .int y3)] dX10_countBuild_91 (by decide) rfl ?_
    refine r_lv [2, 1, 3, 4, 0] rfl ?_
    exact B93 rec30 hrec30 FU _ _ _ _ _ hf
  have B80 : ∀ (rec30 : Pk → Int32 → Int32 → Option (Pk)), (∀ (w_t : Pk) (y1 : Int32) (y2 : Int32), rec30 w_t y1 y2 = some v_t → BK X 5 0 0 30 ([nX10 cI cZ cQ h_t w_t]) [(0, .ref (h_t 0)), (1, .int y1), (2, .int y2)] []) → ∀ (w_t : Pk) (y2 : Int32) (y3 : Int32) (z0 : Int32) (z1 : Int32) (z2 : Int32), fX10_countBuild_b80 rec30 w_t y2 y3 z0 z1 z2 = some v_t → BK X 5 0 0 80 ([nX10 cI cZ cQ h_t w_t]) [(0, .ref (h_t 0)), (2, .int y2), (3, .int y3)] [.int z2, .int z1, .int z0] := by
    intro rec30 hrec30 w_t y2 y3 z0 z1 z2 hf
    unfold fX10_countBuild_b80 at hf
    refine r_icmp_ne O 83 rfl 87 dX10_countBuild_80 (by decide) (fun hc80 => ?_) (fun hc80 => ?_)
    · rw [if_neg hc80] at hf
      refine r_ic O 88 rfl 0 (by decide) dX10_countBuild_87 ?_
      exact B88 rec30 hrec30 _ _ _ _ _ hf
    · rw [if_pos hc80] at hf
      refine r_ic O 84 rfl 1 (by decide) dX10_countBuild_83 ?_
      refine r_goto O 88 dX10_countBuild_84 (by decide) ?_
      exact B88 rec30 hrec30 _ _ _ _ _ hf
  have B61 : ∀ (rec30 : Pk → Int32 → Int32 → Option (Pk)), (∀ (w_t : Pk) (y1 : Int32) (y2 : Int32), rec30 w_t y1 y2 = some v_t → BK X 5 0 0 30 ([nX10 cI cZ cQ h_t w_t]) [(0, .ref (h_t 0)), (1, .int y1), (2, .int y2)] []) → ∀ (w_t : Pk) (y1 : Int32) (y2 : Int32) (z0 : Int32), fX10_countBuild_b61 rec30 w_t y1 y2 z0 = some v_t → BK X 5 0 0 61 ([nX10 cI cZ cQ h_t w_t]) [(0, .ref (h_t 0)), (1, .int y1), (2, .int y2)] [.int z0] := by
    intro rec30 hrec30 w_t y1 y2 z0 hf
    unfold fX10_countBuild_b61 at hf
    refine r_ist_n O 62 rfl rfl [(3, .int z0), (0, .ref (h_t 0)), (1, .int y1), (2, .int y2)] dX10_countBuild_61 (by decide) rfl ?_
    refine r_ild_n O 63 rfl 2 rfl dX10_countBuild_62 ?_
    refine r_ald_n O 64 rfl 1 rfl dX10_countBuild_63 ?_
    refine r_get (ref := RX10) (C := RX10) (T := TX10) (N := 70) O 67 rfl inBX10 0 10 rfl rfl rfl (by decide) flX10_35 rfl rfl dX10_countBuild_64 ?_
    refine r_ic O 68 rfl 5 (by decide) dX10_countBuild_67 ?_
    refine r_ild_n O 69 rfl 3 rfl dX10_countBuild_68 ?_
    refine r_imul O 70 rfl dX10_countBuild_69 ?_
    obtain ⟨x70, ex70, hin70, hf⟩ := qld_some hf
    refine r_iald O 71 rfl 0 4 rfl rfl hin70 dX10_countBuild_70 ?_
    rw [← ex70]
    refine r_ild_n O 72 rfl 0 rfl dX10_countBuild_71 ?_
    refine r_if_eq O 75 rfl 79 dX10_countBuild_72 (by decide) (fun hc72 => ?_) (fun hc72 => ?_)
    · rw [if_pos hc72] at hf
      refine r_ic O 80 rfl 0 (by decide) dX10_countBuild_79 ?_
      refine r_lv [1, 3, 0] rfl ?_
      exact B80 rec30 hrec30 _ _ _ _ _ _ hf
    · rw [if_neg hc72] at hf
      refine r_ic O 76 rfl 1 (by decide) dX10_countBuild_75 ?_
      refine r_goto O 80 dX10_countBuild_76 (by decide) ?_
      refine r_lv [1, 3, 0] rfl ?_
      exact B80 rec30 hrec30 _ _ _ _ _ _ hf
  have B60 : ∀ (rec30 : Pk → Int32 → Int32 → Option (Pk)), (∀ (w_t : Pk) (y1 : Int32) (y2 : Int32), rec30 w_t y1 y2 = some v_t → BK X 5 0 0 30 ([nX10 cI cZ cQ h_t w_t]) [(0, .ref (h_t 0)), (1, .int y1), (2, .int y2)] []) → ∀ (w_t : Pk) (y1 : Int32) (y2 : Int32), fX10_countBuild_b60 rec30 w_t y1 y2 = some v_t → BK X 5 0 0 60 ([nX10 cI cZ cQ h_t w_t]) [(0, .ref (h_t 0)), (1, .int y1), (2, .int y2)] [] := by
    intro rec30 hrec30 w_t y1 y2 hf
    unfold fX10_countBuild_b60 at hf
    refine r_ic O 61 rfl 0 (by decide) dX10_countBuild_60 ?_
    exact B61 rec30 hrec30 _ _ _ _ hf
  have B30 : ∀ n : Nat, ∀ (w_t : Pk) (y1 : Int32) (y2 : Int32), fX10_countBuild_b30 n w_t y1 y2 = some v_t → BK X 5 0 0 30 ([nX10 cI cZ cQ h_t w_t]) [(0, .ref (h_t 0)), (1, .int y1), (2, .int y2)] [] := by
    intro n
    induction n with
    | zero => exact fun _ _ _ hf => qno hf
    | succ n hrec30 =>
      intro w_t y1 y2 hf
      have hf : fX10_countBuild_b30_s (fX10_countBuild_b30 n) w_t y1 y2 = some v_t := hf
      generalize fX10_countBuild_b30 n = rec30 at hf hrec30
      unfold fX10_countBuild_b30_s at hf
      refine r_ild_n O 31 rfl 2 rfl dX10_countBuild_30 ?_
      refine r_bi O 33 rfl 12 (by decide) dX10_countBuild_31 ?_
      refine r_icmp_ge O 36 rfl 144 dX10_countBuild_33 (by decide) (fun hc33 => ?_) (fun hc33 => ?_)
      · rw [if_pos hc33] at hf
        refine r_ild_n O 145 rfl 1 rfl dX10_countBuild_144 ?_
        refine r_if_ne O 148 rfl 250 dX10_countBuild_145 (by decide) (fun hc145 => ?_) (fun hc145 => ?_)
        · rw [if_neg hc145] at hf
          obtain g0 := qe1 hf
          exact r_vret2 O E (by rw [g0]) dX10_countBuild_250
        · rw [if_pos hc145] at hf
          refine r_ald_n O 149 rfl 0 rfl dX10_countBuild_148 ?_
          refine r_dup O 150 rfl dX10_countBuild_149 rfl ?_
          refine r_get (ref := RX10) (C := RX10) (T := TX10) (N := 70) O 153 rfl inBX10 0 13 rfl rfl rfl (by decide) flX10_263 rfl rfl dX10_countBuild_150 ?_
          refine r_ic O 154 rfl 1 (by decide) dX10_countBuild_153 ?_
          refine r_iadd O 155 rfl dX10_countBuild_154 ?_
          obtain ⟨p155_t, ep155_t, hf⟩ := qn_some hf
          refine r_put (ref := RX10) (C := RX10) (T := TX10) (N := 70) O 158 rfl inBX10 tyX10 tyX10_ok nmX10 0 13 rfl rfl rfl (by decide) flX10_263 rfl rfl rfl rfl (Nat.le_of_ble_eq_true rfl) ([nX10 cI cZ cQ h_t p155_t]) (by rw [ep155_t]; rfl) dX10_countBuild_155 ?_
          refine r_ald_n O 159 rfl 0 rfl dX10_countBuild_158 ?_
          refine r_ald_n O 160 rfl 0 rfl dX10_countBuild_159 ?_
          refine r_get (ref := RX10) (C := RX10) (T := TX10) (N := 70) O 163 rfl inBX10 0 1 rfl rfl rfl (by decide) flX10_13 rfl rfl dX10_countBuild_160 ?_
          obtain ⟨p163_t, ep163_t, hf⟩ := qn_some hf
          refine r_put (ref := RX10) (C := RX10) (T := TX10) (N := 70) O 166 rfl inBX10 tyX10 tyX10_ok nmX10 0 11 rfl rfl rfl (by decide) flX10_38 rfl rfl rfl rfl (Nat.le_of_ble_eq_true rfl) ([nX10 cI cZ cQ h_t p163_t]) (by rw [ep163_t]; rfl) dX10_countBuild_163 ?_
          refine r_ald_n O 167 rfl 0 rfl dX10_countBuild_166 ?_
          refine r_ald_n O 168 rfl 0 rfl dX10_countBuild_167 ?_
          refine r_get (ref := RX10) (C := RX10) (T := TX10) (N := 70) O 171 rfl inBX10 0 2 rfl rfl rfl (by decide) flX10_17 rfl rfl dX10_countBuild_168 ?_
          obtain ⟨p171_t, ep171_t, hf⟩ := qn_some hf
          refine r_put (ref := RX10) (C := RX10) (T := TX10) (N := 70) O 174 rfl inBX10 tyX10 tyX10_ok nmX10 0 12 rfl rfl rfl (by decide) flX10_41 rfl rfl rfl rfl (Nat.le_of_ble_eq_true rfl) ([nX10 cI cZ cQ h_t p171_t]) (by rw [ep171_t]; rfl) dX10_countBuild_171 ?_
          refine r_ic O 175 rfl 0 (by decide) dX10_countBuild_174 ?_
          refine r_ist_n O 176 rfl rfl [(2, .int 0), (0, .ref (h_t 0)), (1, .int y1)] dX10_countBuild_175 (by decide) rfl ?_
          refine r_lv [1, 0] rfl ?_
          exact B176 FU _ _ hf
      · rw [if_neg hc33] at hf
        refine r_ald_n O 37 rfl 0 rfl dX10_countBuild_36 ?_
        refine r_ild_n O 38 rfl 2 rfl dX10_countBuild_37 ?_
        refine r_ic O 39 rfl 0 (by decide) dX10_countBuild_38 ?_
        obtain ⟨x39, hq39, hf⟩ := qb1_some hf
        refine k_VI O 42 rfl (zX10_at (l := xl X) (D := xD X) (cI := cI) (cZ := cZ) (cQ := cQ) (h_t := h_t) hq39) (gV mlX10_129 mvX10_at izX10) rfl rfl rfl hdX10_at ⟨Nat.le_of_ble_eq_true rfl, Nat.le_of_ble_eq_true rfl⟩ rfl 0 rfl rfl rfl rfl (Nat.le_of_ble_eq_true rfl) ⟨Nat.zero_le _, Nat.zero_le _⟩ [0] rfl rfl rfl ([nX10 cI cZ cQ h_t w_t]) rfl dX10_countBuild_39 ?_
        refine r_ic O 43 rfl 1 (by decide) dX10_countBuild_42 ?_
        refine r_icmp_ne O 46 rfl 60 dX10_countBuild_43 (by decide) (fun hc43 => ?_) (fun hc43 => ?_)
        · rw [if_neg hc43] at hf
          exact B60 rec30 hrec30 _ _ _ hf
        · rw [if_pos hc43] at hf
          refine r_ald_n O 47 rfl 0 rfl dX10_countBuild_46 ?_
          refine r_ild_n O 48 rfl 2 rfl dX10_countBuild_47 ?_
          refine r_bi O 50 rfl 6 (by decide) dX10_countBuild_48 ?_
          obtain ⟨x50, hq50, hf⟩ := qb1_some hf
          refine k_VI O 53 rfl (zX10_at (l := xl X) (D := xD X) (cI := cI) (cZ := cZ) (cQ := cQ) (h_t := h_t) hq50) (gV mlX10_129 mvX10_at izX10) rfl rfl rfl hdX10_at ⟨Nat.le_of_ble_eq_true rfl, Nat.le_of_ble_eq_true rfl⟩ rfl 0 rfl rfl rfl rfl (Nat.le_of_ble_eq_true rfl) ⟨Nat.zero_le _, Nat.zero_le _⟩ [0] rfl rfl rfl ([nX10 cI cZ cQ h_t w_t]) rfl dX10_countBuild_50 ?_
          refine r_if_ne O 56 rfl 60 dX10_countBuild_53 (by decide) (fun hc53 => ?_) (fun hc53 => ?_)
          · rw [if_neg hc53] at hf
            exact B60 rec30 hrec30 _ _ _ hf
          · rw [if_pos hc53] at hf
            refine r_ic O 57 rfl 1 (by decide) dX10_countBuild_56 ?_
            refine r_goto O 61 dX10_countBuild_57 (by decide) ?_
            exact B61 rec30 hrec30 _ _ _ _ hf
  have B27 : ∀ (w_t : Pk) (z0 : Int32), fX10_countBuild_b27 w_t z0 = some v_t → BK X 5 0 0 27 ([nX10 cI cZ cQ h_t w_t]) [(0, .ref (h_t 0))] [.int z0] := by
    intro w_t z0 hf
    unfold fX10_countBuild_b27 at hf
    refine r_ist_n O 28 rfl rfl [(1, .int z0), (0, .ref (h_t 0))] dX10_countBuild_27 (by decide) rfl ?_
    refine r_ic O 29 rfl 0 (by decide) dX10_countBuild_28 ?_
    refine r_ist_n O 30 rfl rfl [(2, .int 0), (1, .int z0), (0, .ref (h_t 0))] dX10_countBuild_29 (by decide) rfl ?_
    refine r_lv [2, 1, 0] rfl ?_
    exact B30 FU _ _ _ hf
  have B26 : ∀ (w_t : Pk), fX10_countBuild_b26 w_t = some v_t → BK X 5 0 0 26 ([nX10 cI cZ cQ h_t w_t]) [(0, .ref (h_t 0))] [] := by
    intro w_t hf
    unfold fX10_countBuild_b26 at hf
    refine r_ic O 27 rfl 0 (by decide) dX10_countBuild_26 ?_
    exact B27 _ _ hf
  unfold fX10_countBuild at hf
  refine r_ald_n O 1 rfl 0 rfl dX10_countBuild_0 ?_
  refine r_get (ref := RX10) (C := RX10) (T := TX10) (N := 70) O 4 rfl inBX10 0 1 rfl rfl rfl (by decide) flX10_13 rfl rfl dX10_countBuild_1 ?_
  refine r_ald_n O 5 rfl 0 rfl dX10_countBuild_4 ?_
  refine r_get (ref := RX10) (C := RX10) (T := TX10) (N := 70) O 8 rfl inBX10 0 11 rfl rfl rfl (by decide) flX10_38 rfl rfl dX10_countBuild_5 ?_
  refine r_icmp_ne O 11 rfl 26 dX10_countBuild_8 (by decide) (fun hc8 => ?_) (fun hc8 => ?_)
  · rw [if_neg hc8] at hf
    exact B26 _ hf
  · rw [if_pos hc8] at hf
    refine r_ald_n O 12 rfl 0 rfl dX10_countBuild_11 ?_
    refine r_get (ref := RX10) (C := RX10) (T := TX10) (N := 70) O 15 rfl inBX10 0 2 rfl rfl rfl (by decide) flX10_17 rfl rfl dX10_countBuild_12 ?_
    refine r_ald_n O 16 rfl 0 rfl dX10_countBuild_15 ?_
    refine r_get (ref := RX10) (C := RX10) (T := TX10) (N := 70) O 19 rfl inBX10 0 12 rfl rfl rfl (by decide) flX10_41 rfl rfl dX10_countBuild_16 ?_
    refine r_icmp_ne O 22 rfl 26 dX10_countBuild_19 (by decide) (fun hc19 => ?_) (fun hc19 => ?_)
    · rw [if_neg hc19] at hf
      exact B26 _ hf
    · rw [if_pos hc19] at hf
      refine r_ic O 23 rfl 1 (by decide) dX10_countBuild_22 ?_
      refine r_goto O 27 dX10_countBuild_23 (by decide) ?_
      exact B27 _ _ hf
-- X10_tree
def rmX10_tree : Room := { frames := 8, cells := 0, slots := 0, locals := 204 }
set_option maxHeartbeats 4000000 in
set_option maxRecDepth 100000 in
theorem zX10_tree {l : Launch} {D : va_G} {cI cZ cQ : ClassId} {h_t : Nat → Nat} {u_t : Pk} {v_t : Pk} (hf : fX10_tree u_t = some v_t) : MV l yX10_tree wsX10_tree rmX10_tree D (TY cI cZ cQ) [.ref (h_t 0)] [nX10 cI cZ cQ h_t u_t] [nX10 cI cZ cQ h_t v_t] := by
  refine MV.of (own := RX10) (by decide +kernel) rfl rfl (Nat.le_of_ble_eq_true rfl) (lv0 := [(0, .ref (h_t 0))]) rfl ?_
  intro X O E
  have B50 : ∀ (rec18 : Pk → Int32 → Option (Pk)), (∀ (w_t : Pk) (y1 : Int32), rec18 w_t y1 = some v_t → BK X 2 0 0 18 ([nX10 cI cZ cQ h_t w_t]) [(0, .ref (h_t 0)), (1, .int y1)] []) → ∀ (w_t : Pk) (y1 : Int32), fX10_tree_b50 rec18 w_t y1 = some v_t → BK X 2 0 0 50 ([nX10 cI cZ cQ h_t w_t]) [(0, .ref (h_t 0)), (1, .int y1)] [] := by
    intro rec18 hrec18 w_t y1 hf
    unfold fX10_tree_b50 at hf
    obtain ⟨x50, ex50, hf⟩ := qn_some hf
    refine r_iinc O 53 rfl x50 1 rfl (by rw [ex50]; rfl) [(1, .int x50), (0, .ref (h_t 0))] dX10_tree_50 (by decide) rfl ?_
    refine r_goto O 18 dX10_tree_53 (by decide) ?_
    refine r_lv [1, 0] rfl ?_
    exact hrec18 _ _ hf
  have B18 : ∀ n : Nat, ∀ (w_t : Pk) (y1 : Int32), fX10_tree_b18 n w_t y1 = some v_t → BK X 2 0 0 18 ([nX10 cI cZ cQ h_t w_t]) [(0, .ref (h_t 0)), (1, .int y1)] [] := by
    intro n
    induction n with
    | zero => exact fun _ _ hf => qno hf
    | succ n hrec18 =>
      intro w_t y1 hf
      have hf : fX10_tree_b18_s (fX10_tree_b18 n) w_t y1 = some v_t := hf
      generalize fX10_tree_b18 n = rec18 at hf hrec18
      unfold fX10_tree_b18_s at hf
      refine r_ild_n O 19 rfl 1 rfl dX10_tree_18 ?_
      refine r_bi O 21 rfl 12 (by decide) dX10_tree_19 ?_
      refine r_icmp_ge O 24 rfl 56 dX10_tree_21 (by decide) (fun hc21 => ?_) (fun hc21 => ?_)
      · rw [if_pos hc21] at hf
        refine r_ald_n O 57 rfl 0 rfl dX10_tree_56 ?_
        obtain ⟨p57_t, hq57, hf⟩ := qb1_some hf
        refine k_VV O 60 rfl (zX10_number_ (l := xl X) (D := xD X) (cI := cI) (cZ := cZ) (cQ := cQ) (h_t := h_t) hq57) (gV mlX10_276 mvX10_number_ izX10) rfl rfl rfl hdX10_number_ ⟨Nat.le_of_ble_eq_true rfl, Nat.le_of_ble_eq_true rfl⟩ rfl 0 rfl rfl rfl rfl (Nat.le_of_ble_eq_true rfl) ⟨Nat.zero_le _, Nat.zero_le _⟩ [0] rfl rfl rfl ([nX10 cI cZ cQ h_t p57_t]) rfl dX10_tree_57 ?_
        obtain g0 := qe1 hf
        exact r_vret2 O E (by rw [g0]) dX10_tree_60
      · rw [if_neg hc21] at hf
        refine r_ald_n O 25 rfl 0 rfl dX10_tree_24 ?_
        refine r_ild_n O 26 rfl 1 rfl dX10_tree_25 ?_
        refine r_ic O 27 rfl 0 (by decide) dX10_tree_26 ?_
        obtain ⟨x27, hq27, hf⟩ := qb1_some hf
        refine k_VI O 30 rfl (zX10_at (l := xl X) (D := xD X) (cI := cI) (cZ := cZ) (cQ := cQ) (h_t := h_t) hq27) (gV mlX10_129 mvX10_at izX10) rfl rfl rfl hdX10_at ⟨Nat.le_of_ble_eq_true rfl, Nat.le_of_ble_eq_true rfl⟩ rfl 0 rfl rfl rfl rfl (Nat.le_of_ble_eq_true rfl) ⟨Nat.zero_le _, Nat.zero_le _⟩ [0] rfl rfl rfl ([nX10 cI cZ cQ h_t w_t]) rfl dX10_tree_27 ?_
        refine r_ic O 31 rfl 1 (by decide) dX10_tree_30 ?_
        refine r_icmp_ne O 34 rfl 50 dX10_tree_31 (by decide) (fun hc31 => ?_) (fun hc31 => ?_)
        · rw [if_neg hc31] at hf
          exact B50 rec18 hrec18 _ _ hf
        · rw [if_pos hc31] at hf
          refine r_ald_n O 35 rfl 0 rfl dX10_tree_34 ?_
          refine r_ild_n O 36 rfl 1 rfl dX10_tree_35 ?_
          refine r_bi O 38 rfl 6 (by decide) dX10_tree_36 ?_
          obtain ⟨x38, hq38, hf⟩ := qb1_some hf
          refine k_VI O 41 rfl (zX10_at (l := xl X) (D := xD X) (cI := cI) (cZ := cZ) (cQ := cQ) (h_t := h_t) hq38) (gV mlX10_129 mvX10_at izX10) rfl rfl rfl hdX10_at ⟨Nat.le_of_ble_eq_true rfl, Nat.le_of_ble_eq_true rfl⟩ rfl 0 rfl rfl rfl rfl (Nat.le_of_ble_eq_true rfl) ⟨Nat.zero_le _, Nat.zero_le _⟩ [0] rfl rfl rfl ([nX10 cI cZ cQ h_t w_t]) rfl dX10_tree_38 ?_
          refine r_ic O 42 rfl 1 (by decide) dX10_tree_41 ?_
          refine r_icmp_ne O 45 rfl 50 dX10_tree_42 (by decide) (fun hc42 => ?_) (fun hc42 => ?_)
          · rw [if_neg hc42] at hf
            exact B50 rec18 hrec18 _ _ hf
          · rw [if_pos hc42] at hf
            refine r_ald_n O 46 rfl 0 rfl dX10_tree_45 ?_
            refine r_ild_n O 47 rfl 1 rfl dX10_tree_46 ?_
            obtain ⟨p47_t, hq47, hf⟩ := qb1_some hf
            refine k_VV O 50 rfl (zX10_insert (l := xl X) (D := xD X) (cI := cI) (cZ := cZ) (cQ := cQ) (h_t := h_t) hq47) (gV mlX10_272 mvX10_insert izX10) rfl rfl rfl hdX10_insert ⟨Nat.le_of_ble_eq_true rfl, Nat.le_of_ble_eq_true rfl⟩ rfl 0 rfl rfl rfl rfl (Nat.le_of_ble_eq_true rfl) ⟨Nat.zero_le _, Nat.zero_le _⟩ [0] rfl rfl rfl ([nX10 cI cZ cQ h_t p47_t]) rfl dX10_tree_47 ?_
            exact B50 rec18 hrec18 _ _ hf
  unfold fX10_tree at hf
  refine r_ald_n O 1 rfl 0 rfl dX10_tree_0 ?_
  obtain ⟨p1_t, hq1, hf⟩ := qb1_some hf
  refine k_VV O 4 rfl (zX10_countBuild (l := xl X) (D := xD X) (cI := cI) (cZ := cZ) (cQ := cQ) (h_t := h_t) hq1) (gV mlX10_266 mvX10_countBuild izX10) rfl rfl rfl hdX10_countBuild ⟨Nat.le_of_ble_eq_true rfl, Nat.le_of_ble_eq_true rfl⟩ rfl 0 rfl rfl rfl rfl (Nat.le_of_ble_eq_true rfl) ⟨Nat.zero_le _, Nat.zero_le _⟩ [0] rfl rfl rfl ([nX10 cI cZ cQ h_t p1_t]) rfl dX10_tree_1 ?_
  refine r_ald_n O 5 rfl 0 rfl dX10_tree_4 ?_
  refine r_ald_n O 6 rfl 0 rfl dX10_tree_5 ?_
  refine r_get (ref := RX10) (C := RX10) (T := TX10) (N := 70) O 9 rfl inBX10 0 1 rfl rfl rfl (by decide) flX10_13 rfl rfl dX10_tree_6 ?_
  refine r_ald_n O 10 rfl 0 rfl dX10_tree_9 ?_
  refine r_get (ref := RX10) (C := RX10) (T := TX10) (N := 70) O 13 rfl inBX10 0 2 rfl rfl rfl (by decide) flX10_17 rfl rfl dX10_tree_10 ?_
  obtain ⟨p13_t, hq13, hf⟩ := qb1_some hf
  refine k_VV O 16 rfl (zX10_makeFixed (l := xl X) (D := xD X) (cI := cI) (cZ := cZ) (cQ := cQ) (h_t := h_t) hq13) (gV mlX10_269 mvX10_makeFixed izX10) rfl rfl rfl hdX10_makeFixed ⟨Nat.le_of_ble_eq_true rfl, Nat.le_of_ble_eq_true rfl⟩ rfl 0 rfl rfl rfl rfl (Nat.le_of_ble_eq_true rfl) ⟨Nat.zero_le _, Nat.zero_le _⟩ [0] rfl rfl rfl ([nX10 cI cZ cQ h_t p13_t]) rfl dX10_tree_13 ?_
  refine r_ic O 17 rfl 0 (by decide) dX10_tree_16 ?_
  refine r_ist_n O 18 rfl rfl [(1, .int 0), (0, .ref (h_t 0))] dX10_tree_17 (by decide) rfl ?_
  refine r_lv [1, 0] rfl ?_
  exact B18 FU _ _ hf
-- X10_nodeCount
def rmX10_nodeCount : Room := { frames := 9, cells := 0, slots := 0, locals := 225 }
set_option maxHeartbeats 4000000 in
set_option maxRecDepth 100000 in
theorem zX10_nodeCount {l : Launch} {D : va_G} {cI cZ cQ : ClassId} {h_t : Nat → Nat} {u_t : Pk} {r0 : Int32} {v_t : Pk} (hf : fX10_nodeCount u_t = some (r0, v_t)) : MI l yX10_nodeCount wsX10_nodeCount rmX10_nodeCount D (TY cI cZ cQ) [.ref (h_t 0)] [nX10 cI cZ cQ h_t u_t] r0 [nX10 cI cZ cQ h_t v_t] := by
  refine MI.of (own := RX10) (by decide +kernel) rfl rfl (Nat.le_of_ble_eq_true rfl) (lv0 := [(0, .ref (h_t 0))]) rfl ?_
  intro X O E
  unfold fX10_nodeCount at hf
  refine r_ald_n O 1 rfl 0 rfl dX10_nodeCount_0 ?_
  obtain ⟨p1_t, hq1, hf⟩ := qb1_some hf
  refine k_VV O 4 rfl (zX10_tree (l := xl X) (D := xD X) (cI := cI) (cZ := cZ) (cQ := cQ) (h_t := h_t) hq1) (gV mlX10_278 mvX10_tree izX10) rfl rfl rfl hdX10_tree ⟨Nat.le_of_ble_eq_true rfl, Nat.le_of_ble_eq_true rfl⟩ rfl 0 rfl rfl rfl rfl (Nat.le_of_ble_eq_true rfl) ⟨Nat.zero_le _, Nat.zero_le _⟩ [0] rfl rfl rfl ([nX10 cI cZ cQ h_t p1_t]) rfl dX10_nodeCount_1 ?_
  refine r_ald_n O 5 rfl 0 rfl dX10_nodeCount_4 ?_
  refine r_get (ref := RX10) (C := RX10) (T := TX10) (N := 70) O 8 rfl inBX10 0 25 rfl rfl rfl (by decide) flX10_209 rfl rfl dX10_nodeCount_5 ?_
  obtain ⟨g0, g1⟩ := qe2 hf
  exact r_iret2 O E g0 (by rw [g1]) dX10_nodeCount_8
-- X10_nodeWall
def rmX10_nodeWall : Room := { frames := 9, cells := 0, slots := 0, locals := 225 }
set_option maxHeartbeats 4000000 in
set_option maxRecDepth 100000 in
theorem zX10_nodeWall {l : Launch} {D : va_G} {cI cZ cQ : ClassId} {h_t : Nat → Nat} {u_t : Pk} {a1 : Int32} {r0 : Int32} {v_t : Pk} (hf : fX10_nodeWall u_t a1 = some (r0, v_t)) : MI l yX10_nodeWall wsX10_nodeWall rmX10_nodeWall D (TY cI cZ cQ) [.ref (h_t 0), .int a1] [nX10 cI cZ cQ h_t u_t] r0 [nX10 cI cZ cQ h_t v_t] := by
  refine MI.of (own := RX10) (by decide +kernel) rfl rfl (Nat.le_of_ble_eq_true rfl) (lv0 := [(0, .ref (h_t 0)), (1, .int a1)]) rfl ?_
  intro X O E
  unfold fX10_nodeWall at hf
  refine r_ald_n O 1 rfl 0 rfl dX10_nodeWall_0 ?_
  obtain ⟨p1_t, hq1, hf⟩ := qb1_some hf
  refine k_VV O 4 rfl (zX10_tree (l := xl X) (D := xD X) (cI := cI) (cZ := cZ) (cQ := cQ) (h_t := h_t) hq1) (gV mlX10_278 mvX10_tree izX10) rfl rfl rfl hdX10_tree ⟨Nat.le_of_ble_eq_true rfl, Nat.le_of_ble_eq_true rfl⟩ rfl 0 rfl rfl rfl rfl (Nat.le_of_ble_eq_true rfl) ⟨Nat.zero_le _, Nat.zero_le _⟩ [0] rfl rfl rfl ([nX10 cI cZ cQ h_t p1_t]) rfl dX10_nodeWall_1 ?_
  refine r_ild_n O 5 rfl 1 rfl dX10_nodeWall_4 ?_
  refine r_if_lt O 8 rfl 16 dX10_nodeWall_5 (by decide) (fun hc5 => ?_) (fun hc5 => ?_)
  · rw [if_pos hc5] at hf
    refine r_bi O 18 rfl (-7) (by decide) dX10_nodeWall_16 ?_
    refine r_goto O 32 dX10_nodeWall_18 (by decide) ?_
    obtain ⟨g0, g1⟩ := qe2 hf
    exact r_iret2 O E g0 (by rw [g1]) dX10_nodeWall_32
  · rw [if_neg hc5] at hf
    refine r_ild_n O 9 rfl 1 rfl dX10_nodeWall_8 ?_
    refine r_ald_n O 10 rfl 0 rfl dX10_nodeWall_9 ?_
    refine r_get (ref := RX10) (C := RX10) (T := TX10) (N := 70) O 13 rfl inBX10 0 25 rfl rfl rfl (by decide) flX10_209 rfl rfl dX10_nodeWall_10 ?_
    refine r_icmp_lt O 16 rfl 21 dX10_nodeWall_13 (by decide) (fun hc13 => ?_) (fun hc13 => ?_)
    · rw [if_pos hc13] at hf
      refine r_ald_n O 22 rfl 0 rfl dX10_nodeWall_21 ?_
      refine r_get (ref := RX10) (C := RX10) (T := TX10) (N := 70) O 25 rfl inBX10 0 20 rfl rfl rfl (by decide) flX10_47 rfl rfl dX10_nodeWall_22 ?_
      refine r_ald_n O 26 rfl 0 rfl dX10_nodeWall_25 ?_
      refine r_get (ref := RX10) (C := RX10) (T := TX10) (N := 70) O 29 rfl inBX10 0 38 rfl rfl rfl (by decide) flX10_89 rfl rfl dX10_nodeWall_26 ?_
      refine r_ild_n O 30 rfl 1 rfl dX10_nodeWall_29 ?_
      obtain ⟨x30, ex30, hin30, hf⟩ := qld_some hf
      refine r_iald O 31 rfl 0 20 rfl rfl hin30 dX10_nodeWall_30 ?_
      rw [← ex30]
      obtain ⟨x31, ex31, hin31, hf⟩ := qld_some hf
      refine r_iald O 32 rfl 0 6 rfl rfl hin31 dX10_nodeWall_31 ?_
      rw [← ex31]
      obtain ⟨g0, g1⟩ := qe2 hf
      exact r_iret2 O E g0 (by rw [g1]) dX10_nodeWall_32
    · rw [if_neg hc13] at hf
      refine r_bi O 18 rfl (-7) (by decide) dX10_nodeWall_16 ?_
      refine r_goto O 32 dX10_nodeWall_18 (by decide) ?_
      obtain ⟨g0, g1⟩ := qe2 hf
      exact r_iret2 O E g0 (by rw [g1]) dX10_nodeWall_32
-- X10_nodeChild
def rmX10_nodeChild : Room := { frames := 9, cells := 0, slots := 0, locals := 225 }
set_option maxHeartbeats 4000000 in
set_option maxRecDepth 100000 in
theorem zX10_nodeChild {l : Launch} {D : va_G} {cI cZ cQ : ClassId} {h_t : Nat → Nat} {u_t : Pk} {a1 : Int32} {a2 : Int32} {r0 : Int32} {v_t : Pk} (hf : fX10_nodeChild u_t a1 a2 = some (r0, v_t)) : MI l yX10_nodeChild wsX10_nodeChild rmX10_nodeChild D (TY cI cZ cQ) [.ref (h_t 0), .int a1, .int a2] [nX10 cI cZ cQ h_t u_t] r0 [nX10 cI cZ cQ h_t v_t] := by
  refine MI.of (own := RX10) (by decide +kernel) rfl rfl (Nat.le_of_ble_eq_true rfl) (lv0 := [(0, .ref (h_t 0)), (1, .int a1), (2, .int a2)]) rfl ?_
  intro X O E
  have B60 : ∀ (w_t : Pk) (z0 : Int32), fX10_nodeChild_b60 w_t z0 = some (r0, v_t) → BK X 4 0 0 60 ([nX10 cI cZ cQ h_t w_t]) [(0, .ref (h_t 0))] [.int z0] := by
    intro w_t z0 hf
    unfold fX10_nodeChild_b60 at hf
    refine r_ist_n O 61 rfl rfl [(3, .int z0), (0, .ref (h_t 0))] dX10_nodeChild_60 (by decide) rfl ?_
    refine r_ild_n O 62 rfl 0 rfl dX10_nodeChild_61 ?_
    refine r_if_ge O 65 rfl 70 dX10_nodeChild_62 (by decide) (fun hc62 => ?_) (fun hc62 => ?_)
    · rw [if_pos hc62] at hf
      refine r_ald_n O 71 rfl 1 rfl dX10_nodeChild_70 ?_
      refine r_get (ref := RX10) (C := RX10) (T := TX10) (N := 70) O 74 rfl inBX10 0 39 rfl rfl rfl (by decide) flX10_92 rfl rfl dX10_nodeChild_71 ?_
      refine r_ild_n O 75 rfl 0 rfl dX10_nodeChild_74 ?_
      obtain ⟨x75, ex75, hin75, hf⟩ := qld_some hf
      refine r_iald O 76 rfl 0 21 rfl rfl hin75 dX10_nodeChild_75 ?_
      rw [← ex75]
      obtain ⟨g0, g1⟩ := qe2 hf
      exact r_iret2 O E g0 (by rw [g1]) dX10_nodeChild_76
    · rw [if_neg hc62] at hf
      refine r_bi O 67 rfl (-8) (by decide) dX10_nodeChild_65 ?_
      refine r_goto O 76 dX10_nodeChild_67 (by decide) ?_
      obtain ⟨g0, g1⟩ := qe2 hf
      exact r_iret2 O E g0 (by rw [g1]) dX10_nodeChild_76
  unfold fX10_nodeChild at hf
  refine r_ild_n O 1 rfl 2 rfl dX10_nodeChild_0 ?_
  refine r_if_lt O 4 rfl 9 dX10_nodeChild_1 (by decide) (fun hc1 => ?_) (fun hc1 => ?_)
  · rw [if_pos hc1] at hf
    refine r_bi O 11 rfl (-2) (by decide) dX10_nodeChild_9 ?_
    obtain ⟨g0, g1⟩ := qe2 hf
    exact r_iret2 O E g0 (by rw [g1]) dX10_nodeChild_11
  · rw [if_neg hc1] at hf
    refine r_ild_n O 5 rfl 2 rfl dX10_nodeChild_4 ?_
    refine r_ic O 6 rfl 1 (by decide) dX10_nodeChild_5 ?_
    refine r_icmp_le O 9 rfl 12 dX10_nodeChild_6 (by decide) (fun hc6 => ?_) (fun hc6 => ?_)
    · rw [if_pos hc6] at hf
      refine r_ald_n O 13 rfl 0 rfl dX10_nodeChild_12 ?_
      obtain ⟨p13_t, hq13, hf⟩ := qb1_some hf
      refine k_VV O 16 rfl (zX10_tree (l := xl X) (D := xD X) (cI := cI) (cZ := cZ) (cQ := cQ) (h_t := h_t) hq13) (gV mlX10_278 mvX10_tree izX10) rfl rfl rfl hdX10_tree ⟨Nat.le_of_ble_eq_true rfl, Nat.le_of_ble_eq_true rfl⟩ rfl 0 rfl rfl rfl rfl (Nat.le_of_ble_eq_true rfl) ⟨Nat.zero_le _, Nat.zero_le _⟩ [0] rfl rfl rfl ([nX10 cI cZ cQ h_t p13_t]) rfl dX10_nodeChild_13 ?_
      refine r_ild_n O 17 rfl 1 rfl dX10_nodeChild_16 ?_
      refine r_if_lt O 20 rfl 28 dX10_nodeChild_17 (by decide) (fun hc17 => ?_) (fun hc17 => ?_)
      · rw [if_pos hc17] at hf
        refine r_bi O 30 rfl (-7) (by decide) dX10_nodeChild_28 ?_
        obtain ⟨g0, g1⟩ := qe2 hf
        exact r_iret2 O E g0 (by rw [g1]) dX10_nodeChild_30
      · rw [if_neg hc17] at hf
        refine r_ild_n O 21 rfl 1 rfl dX10_nodeChild_20 ?_
        refine r_ald_n O 22 rfl 0 rfl dX10_nodeChild_21 ?_
        refine r_get (ref := RX10) (C := RX10) (T := TX10) (N := 70) O 25 rfl inBX10 0 25 rfl rfl rfl (by decide) flX10_209 rfl rfl dX10_nodeChild_22 ?_
        refine r_icmp_lt O 28 rfl 31 dX10_nodeChild_25 (by decide) (fun hc25 => ?_) (fun hc25 => ?_)
        · rw [if_pos hc25] at hf
          refine r_ild_n O 32 rfl 2 rfl dX10_nodeChild_31 ?_
          refine r_if_ne O 35 rfl 49 dX10_nodeChild_32 (by decide) (fun hc32 => ?_) (fun hc32 => ?_)
          · rw [if_neg hc32] at hf
            refine r_ald_n O 50 rfl 0 rfl dX10_nodeChild_49 ?_
            refine r_get (ref := RX10) (C := RX10) (T := TX10) (N := 70) O 53 rfl inBX10 0 22 rfl rfl rfl (by decide) flX10_53 rfl rfl dX10_nodeChild_50 ?_
            refine r_ald_n O 54 rfl 0 rfl dX10_nodeChild_53 ?_
            refine r_get (ref := RX10) (C := RX10) (T := TX10) (N := 70) O 57 rfl inBX10 0 38 rfl rfl rfl (by decide) flX10_89 rfl rfl dX10_nodeChild_54 ?_
            refine r_ild_n O 58 rfl 1 rfl dX10_nodeChild_57 ?_
            obtain ⟨x58, ex58, hin58, hf⟩ := qld_some hf
            refine r_iald O 59 rfl 0 20 rfl rfl hin58 dX10_nodeChild_58 ?_
            rw [← ex58]
            obtain ⟨x59, ex59, hin59, hf⟩ := qld_some hf
            refine r_iald O 60 rfl 0 8 rfl rfl hin59 dX10_nodeChild_59 ?_
            rw [← ex59]
            refine r_lv [0] rfl ?_
            exact B60 _ _ hf
          · rw [if_pos hc32] at hf
            refine r_ald_n O 36 rfl 0 rfl dX10_nodeChild_35 ?_
            refine r_get (ref := RX10) (C := RX10) (T := TX10) (N := 70) O 39 rfl inBX10 0 21 rfl rfl rfl (by decide) flX10_50 rfl rfl dX10_nodeChild_36 ?_
            refine r_ald_n O 40 rfl 0 rfl dX10_nodeChild_39 ?_
            refine r_get (ref := RX10) (C := RX10) (T := TX10) (N := 70) O 43 rfl inBX10 0 38 rfl rfl rfl (by decide) flX10_89 rfl rfl dX10_nodeChild_40 ?_
            refine r_ild_n O 44 rfl 1 rfl dX10_nodeChild_43 ?_
            obtain ⟨x44, ex44, hin44, hf⟩ := qld_some hf
            refine r_iald O 45 rfl 0 20 rfl rfl hin44 dX10_nodeChild_44 ?_
            rw [← ex44]
            obtain ⟨x45, ex45, hin45, hf⟩ := qld_some hf
            refine r_iald O 46 rfl 0 7 rfl rfl hin45 dX10_nodeChild_45 ?_
            rw [← ex45]
            refine r_goto O 60 dX10_nodeChild_46 (by decide) ?_
            refine r_lv [0] rfl ?_
            exact B60 _ _ hf
        · rw [if_neg hc25] at hf
          refine r_bi O 30 rfl (-7) (by decide) dX10_nodeChild_28 ?_
          obtain ⟨g0, g1⟩ := qe2 hf
          exact r_iret2 O E g0 (by rw [g1]) dX10_nodeChild_30
    · rw [if_neg hc6] at hf
      refine r_bi O 11 rfl (-2) (by decide) dX10_nodeChild_9 ?_
      obtain ⟨g0, g1⟩ := qe2 hf
      exact r_iret2 O E g0 (by rw [g1]) dX10_nodeChild_11
-- X10_nodeDepth
def rmX10_nodeDepth : Room := { frames := 9, cells := 0, slots := 0, locals := 225 }
set_option maxHeartbeats 4000000 in
set_option maxRecDepth 100000 in
theorem zX10_nodeDepth {l : Launch} {D : va_G} {cI cZ cQ : ClassId} {h_t : Nat → Nat} {u_t : Pk} {a1 : Int32} {r0 : Int32} {v_t : Pk} (hf : fX10_nodeDepth u_t a1 = some (r0, v_t)) : MI l yX10_nodeDepth wsX10_nodeDepth rmX10_nodeDepth D (TY cI cZ cQ) [.ref (h_t 0), .int a1] [nX10 cI cZ cQ h_t u_t] r0 [nX10 cI cZ cQ h_t v_t] := by
  refine MI.of (own := RX10) (by decide +kernel) rfl rfl (Nat.le_of_ble_eq_true rfl) (lv0 := [(0, .ref (h_t 0)), (1, .int a1)]) rfl ?_
  intro X O E
  unfold fX10_nodeDepth at hf
  refine r_ald_n O 1 rfl 0 rfl dX10_nodeDepth_0 ?_
  obtain ⟨p1_t, hq1, hf⟩ := qb1_some hf
  refine k_VV O 4 rfl (zX10_tree (l := xl X) (D := xD X) (cI := cI) (cZ := cZ) (cQ := cQ) (h_t := h_t) hq1) (gV mlX10_278 mvX10_tree izX10) rfl rfl rfl hdX10_tree ⟨Nat.le_of_ble_eq_true rfl, Nat.le_of_ble_eq_true rfl⟩ rfl 0 rfl rfl rfl rfl (Nat.le_of_ble_eq_true rfl) ⟨Nat.zero_le _, Nat.zero_le _⟩ [0] rfl rfl rfl ([nX10 cI cZ cQ h_t p1_t]) rfl dX10_nodeDepth_1 ?_
  refine r_ild_n O 5 rfl 1 rfl dX10_nodeDepth_4 ?_
  refine r_if_lt O 8 rfl 16 dX10_nodeDepth_5 (by decide) (fun hc5 => ?_) (fun hc5 => ?_)
  · rw [if_pos hc5] at hf
    refine r_bi O 18 rfl (-7) (by decide) dX10_nodeDepth_16 ?_
    refine r_goto O 32 dX10_nodeDepth_18 (by decide) ?_
    obtain ⟨g0, g1⟩ := qe2 hf
    exact r_iret2 O E g0 (by rw [g1]) dX10_nodeDepth_32
  · rw [if_neg hc5] at hf
    refine r_ild_n O 9 rfl 1 rfl dX10_nodeDepth_8 ?_
    refine r_ald_n O 10 rfl 0 rfl dX10_nodeDepth_9 ?_
    refine r_get (ref := RX10) (C := RX10) (T := TX10) (N := 70) O 13 rfl inBX10 0 25 rfl rfl rfl (by decide) flX10_209 rfl rfl dX10_nodeDepth_10 ?_
    refine r_icmp_lt O 16 rfl 21 dX10_nodeDepth_13 (by decide) (fun hc13 => ?_) (fun hc13 => ?_)
    · rw [if_pos hc13] at hf
      refine r_ald_n O 22 rfl 0 rfl dX10_nodeDepth_21 ?_
      refine r_get (ref := RX10) (C := RX10) (T := TX10) (N := 70) O 25 rfl inBX10 0 40 rfl rfl rfl (by decide) flX10_95 rfl rfl dX10_nodeDepth_22 ?_
      refine r_ald_n O 26 rfl 0 rfl dX10_nodeDepth_25 ?_
      refine r_get (ref := RX10) (C := RX10) (T := TX10) (N := 70) O 29 rfl inBX10 0 38 rfl rfl rfl (by decide) flX10_89 rfl rfl dX10_nodeDepth_26 ?_
      refine r_ild_n O 30 rfl 1 rfl dX10_nodeDepth_29 ?_
      obtain ⟨x30, ex30, hin30, hf⟩ := qld_some hf
      refine r_iald O 31 rfl 0 20 rfl rfl hin30 dX10_nodeDepth_30 ?_
      rw [← ex30]
      obtain ⟨x31, ex31, hin31, hf⟩ := qld_some hf
      refine r_iald O 32 rfl 0 22 rfl rfl hin31 dX10_nodeDepth_31 ?_
      rw [← ex31]
      obtain ⟨g0, g1⟩ := qe2 hf
      exact r_iret2 O E g0 (by rw [g1]) dX10_nodeDepth_32
    · rw [if_neg hc13] at hf
      refine r_bi O 18 rfl (-7) (by decide) dX10_nodeDepth_16 ?_
      refine r_goto O 32 dX10_nodeDepth_18 (by decide) ?_
      obtain ⟨g0, g1⟩ := qe2 hf
      exact r_iret2 O E g0 (by rw [g1]) dX10_nodeDepth_32
-- X10_pieceCount
def rmX10_pieceCount : Room := { frames := 9, cells := 0, slots := 0, locals := 225 }
set_option maxHeartbeats 4000000 in
set_option maxRecDepth 100000 in
theorem zX10_pieceCount {l : Launch} {D : va_G} {cI cZ cQ : ClassId} {h_t : Nat → Nat} {u_t : Pk} {r0 : Int32} {v_t : Pk} (hf : fX10_pieceCount u_t = some (r0, v_t)) : MI l yX10_pieceCount wsX10_pieceCount rmX10_pieceCount D (TY cI cZ cQ) [.ref (h_t 0)] [nX10 cI cZ cQ h_t u_t] r0 [nX10 cI cZ cQ h_t v_t] := by
  refine MI.of (own := RX10) (by decide +kernel) rfl rfl (Nat.le_of_ble_eq_true rfl) (lv0 := [(0, .ref (h_t 0))]) rfl ?_
  intro X O E
  unfold fX10_pieceCount at hf
  refine r_ald_n O 1 rfl 0 rfl dX10_pieceCount_0 ?_
  obtain ⟨p1_t, hq1, hf⟩ := qb1_some hf
  refine k_VV O 4 rfl (zX10_tree (l := xl X) (D := xD X) (cI := cI) (cZ := cZ) (cQ := cQ) (h_t := h_t) hq1) (gV mlX10_278 mvX10_tree izX10) rfl rfl rfl hdX10_tree ⟨Nat.le_of_ble_eq_true rfl, Nat.le_of_ble_eq_true rfl⟩ rfl 0 rfl rfl rfl rfl (Nat.le_of_ble_eq_true rfl) ⟨Nat.zero_le _, Nat.zero_le _⟩ [0] rfl rfl rfl ([nX10 cI cZ cQ h_t p1_t]) rfl dX10_pieceCount_1 ?_
  refine r_ald_n O 5 rfl 0 rfl dX10_pieceCount_4 ?_
  refine r_get (ref := RX10) (C := RX10) (T := TX10) (N := 70) O 8 rfl inBX10 0 31 rfl rfl rfl (by decide) flX10_206 rfl rfl dX10_pieceCount_5 ?_
  obtain ⟨g0, g1⟩ := qe2 hf
  exact r_iret2 O E g0 (by rw [g1]) dX10_pieceCount_8
-- X10_pieceWall
def rmX10_pieceWall : Room := { frames := 9, cells := 0, slots := 0, locals := 225 }
set_option maxHeartbeats 4000000 in
set_option maxRecDepth 100000 in
theorem zX10_pieceWall {l : Launch} {D : va_G} {cI cZ cQ : ClassId} {h_t : Nat → Nat} {u_t : Pk} {a1 : Int32} {r0 : Int32} {v_t : Pk} (hf : fX10_pieceWall u_t a1 = some (r0, v_t)) : MI l yX10_pieceWall wsX10_pieceWall rmX10_pieceWall D (TY cI cZ cQ) [.ref (h_t 0), .int a1] [nX10 cI cZ cQ h_t u_t] r0 [nX10 cI cZ cQ h_t v_t] := by
  refine MI.of (own := RX10) (by decide +kernel) rfl rfl (Nat.le_of_ble_eq_true rfl) (lv0 := [(0, .ref (h_t 0)), (1, .int a1)]) rfl ?_
  intro X O E
  unfold fX10_pieceWall at hf
  refine r_ald_n O 1 rfl 0 rfl dX10_pieceWall_0 ?_
  obtain ⟨p1_t, hq1, hf⟩ := qb1_some hf
  refine k_VV O 4 rfl (zX10_tree (l := xl X) (D := xD X) (cI := cI) (cZ := cZ) (cQ := cQ) (h_t := h_t) hq1) (gV mlX10_278 mvX10_tree izX10) rfl rfl rfl hdX10_tree ⟨Nat.le_of_ble_eq_true rfl, Nat.le_of_ble_eq_true rfl⟩ rfl 0 rfl rfl rfl rfl (Nat.le_of_ble_eq_true rfl) ⟨Nat.zero_le _, Nat.zero_le _⟩ [0] rfl rfl rfl ([nX10 cI cZ cQ h_t p1_t]) rfl dX10_pieceWall_1 ?_
  refine r_ild_n O 5 rfl 1 rfl dX10_pieceWall_4 ?_
  refine r_if_lt O 8 rfl 16 dX10_pieceWall_5 (by decide) (fun hc5 => ?_) (fun hc5 => ?_)
  · rw [if_pos hc5] at hf
    refine r_bi O 18 rfl (-6) (by decide) dX10_pieceWall_16 ?_
    refine r_goto O 32 dX10_pieceWall_18 (by decide) ?_
    obtain ⟨g0, g1⟩ := qe2 hf
    exact r_iret2 O E g0 (by rw [g1]) dX10_pieceWall_32
  · rw [if_neg hc5] at hf
    refine r_ild_n O 9 rfl 1 rfl dX10_pieceWall_8 ?_
    refine r_ald_n O 10 rfl 0 rfl dX10_pieceWall_9 ?_
    refine r_get (ref := RX10) (C := RX10) (T := TX10) (N := 70) O 13 rfl inBX10 0 31 rfl rfl rfl (by decide) flX10_206 rfl rfl dX10_pieceWall_10 ?_
    refine r_icmp_lt O 16 rfl 21 dX10_pieceWall_13 (by decide) (fun hc13 => ?_) (fun hc13 => ?_)
    · rw [if_pos hc13] at hf
      refine r_ald_n O 22 rfl 0 rfl dX10_pieceWall_21 ?_
      refine r_get (ref := RX10) (C := RX10) (T := TX10) (N := 70) O 25 rfl inBX10 0 27 rfl rfl rfl (by decide) flX10_62 rfl rfl dX10_pieceWall_22 ?_
      refine r_ald_n O 26 rfl 0 rfl dX10_pieceWall_25 ?_
      refine r_get (ref := RX10) (C := RX10) (T := TX10) (N := 70) O 29 rfl inBX10 0 41 rfl rfl rfl (by decide) flX10_98 rfl rfl dX10_pieceWall_26 ?_
      refine r_ild_n O 30 rfl 1 rfl dX10_pieceWall_29 ?_
      obtain ⟨x30, ex30, hin30, hf⟩ := qld_some hf
      refine r_iald O 31 rfl 0 23 rfl rfl hin30 dX10_pieceWall_30 ?_
      rw [← ex30]
      obtain ⟨x31, ex31, hin31, hf⟩ := qld_some hf
      refine r_iald O 32 rfl 0 11 rfl rfl hin31 dX10_pieceWall_31 ?_
      rw [← ex31]
      obtain ⟨g0, g1⟩ := qe2 hf
      exact r_iret2 O E g0 (by rw [g1]) dX10_pieceWall_32
    · rw [if_neg hc13] at hf
      refine r_bi O 18 rfl (-6) (by decide) dX10_pieceWall_16 ?_
      refine r_goto O 32 dX10_pieceWall_18 (by decide) ?_
      obtain ⟨g0, g1⟩ := qe2 hf
      exact r_iret2 O E g0 (by rw [g1]) dX10_pieceWall_32
-- X10_pieceNode
def rmX10_pieceNode : Room := { frames := 9, cells := 0, slots := 0, locals := 225 }
set_option maxHeartbeats 4000000 in
set_option maxRecDepth 100000 in
theorem zX10_pieceNode {l : Launch} {D : va_G} {cI cZ cQ : ClassId} {h_t : Nat → Nat} {u_t : Pk} {a1 : Int32} {r0 : Int32} {v_t : Pk} (hf : fX10_pieceNode u_t a1 = some (r0, v_t)) : MI l yX10_pieceNode wsX10_pieceNode rmX10_pieceNode D (TY cI cZ cQ) [.ref (h_t 0), .int a1] [nX10 cI cZ cQ h_t u_t] r0 [nX10 cI cZ cQ h_t v_t] := by
  refine MI.of (own := RX10) (by decide +kernel) rfl rfl (Nat.le_of_ble_eq_true rfl) (lv0 := [(0, .ref (h_t 0)), (1, .int a1)]) rfl ?_
  intro X O E
  unfold fX10_pieceNode at hf
  refine r_ald_n O 1 rfl 0 rfl dX10_pieceNode_0 ?_
  obtain ⟨p1_t, hq1, hf⟩ := qb1_some hf
  refine k_VV O 4 rfl (zX10_tree (l := xl X) (D := xD X) (cI := cI) (cZ := cZ) (cQ := cQ) (h_t := h_t) hq1) (gV mlX10_278 mvX10_tree izX10) rfl rfl rfl hdX10_tree ⟨Nat.le_of_ble_eq_true rfl, Nat.le_of_ble_eq_true rfl⟩ rfl 0 rfl rfl rfl rfl (Nat.le_of_ble_eq_true rfl) ⟨Nat.zero_le _, Nat.zero_le _⟩ [0] rfl rfl rfl ([nX10 cI cZ cQ h_t p1_t]) rfl dX10_pieceNode_1 ?_
  refine r_ild_n O 5 rfl 1 rfl dX10_pieceNode_4 ?_
  refine r_if_lt O 8 rfl 16 dX10_pieceNode_5 (by decide) (fun hc5 => ?_) (fun hc5 => ?_)
  · rw [if_pos hc5] at hf
    refine r_bi O 18 rfl (-6) (by decide) dX10_pieceNode_16 ?_
    refine r_goto O 37 dX10_pieceNode_18 (by decide) ?_
    obtain ⟨g0, g1⟩ := qe2 hf
    exact r_iret2 O E g0 (by rw [g1]) dX10_pieceNode_37
  · rw [if_neg hc5] at hf
    refine r_ild_n O 9 rfl 1 rfl dX10_pieceNode_8 ?_
    refine r_ald_n O 10 rfl 0 rfl dX10_pieceNode_9 ?_
    refine r_get (ref := RX10) (C := RX10) (T := TX10) (N := 70) O 13 rfl inBX10 0 31 rfl rfl rfl (by decide) flX10_206 rfl rfl dX10_pieceNode_10 ?_
    refine r_icmp_lt O 16 rfl 21 dX10_pieceNode_13 (by decide) (fun hc13 => ?_) (fun hc13 => ?_)
    · rw [if_pos hc13] at hf
      refine r_ald_n O 22 rfl 0 rfl dX10_pieceNode_21 ?_
      refine r_get (ref := RX10) (C := RX10) (T := TX10) (N := 70) O 25 rfl inBX10 0 39 rfl rfl rfl (by decide) flX10_92 rfl rfl dX10_pieceNode_22 ?_
      refine r_ald_n O 26 rfl 0 rfl dX10_pieceNode_25 ?_
      refine r_get (ref := RX10) (C := RX10) (T := TX10) (N := 70) O 29 rfl inBX10 0 28 rfl rfl rfl (by decide) flX10_65 rfl rfl dX10_pieceNode_26 ?_
      refine r_ald_n O 30 rfl 0 rfl dX10_pieceNode_29 ?_
      refine r_get (ref := RX10) (C := RX10) (T := TX10) (N := 70) O 33 rfl inBX10 0 41 rfl rfl rfl (by decide) flX10_98 rfl rfl dX10_pieceNode_30 ?_
      refine r_ild_n O 34 rfl 1 rfl dX10_pieceNode_33 ?_
      obtain ⟨x34, ex34, hin34, hf⟩ := qld_some hf
      refine r_iald O 35 rfl 0 23 rfl rfl hin34 dX10_pieceNode_34 ?_
      rw [← ex34]
      obtain ⟨x35, ex35, hin35, hf⟩ := qld_some hf
      refine r_iald O 36 rfl 0 12 rfl rfl hin35 dX10_pieceNode_35 ?_
      rw [← ex35]
      obtain ⟨x36, ex36, hin36, hf⟩ := qld_some hf
      refine r_iald O 37 rfl 0 21 rfl rfl hin36 dX10_pieceNode_36 ?_
      rw [← ex36]
      obtain ⟨g0, g1⟩ := qe2 hf
      exact r_iret2 O E g0 (by rw [g1]) dX10_pieceNode_37
    · rw [if_neg hc13] at hf
      refine r_bi O 18 rfl (-6) (by decide) dX10_pieceNode_16 ?_
      refine r_goto O 37 dX10_pieceNode_18 (by decide) ?_
      obtain ⟨g0, g1⟩ := qe2 hf
      exact r_iret2 O E g0 (by rw [g1]) dX10_pieceNode_37
-- X10_pieceBound
def rmX10_pieceBound : Room := { frames := 9, cells := 0, slots := 0, locals := 225 }
set_option maxHeartbeats 4000000 in
set_option maxRecDepth 100000 in
theorem zX10_pieceBound {l : Launch} {D : va_G} {cI cZ cQ : ClassId} {h_t : Nat → Nat} {u_t : Pk} {a1 : Int32} {a2 : Int32} {r0 : Int32} {v_t : Pk} (hf : fX10_pieceBound u_t a1 a2 = some (r0, v_t)) : MI l yX10_pieceBound wsX10_pieceBound rmX10_pieceBound D (TY cI cZ cQ) [.ref (h_t 0), .int a1, .int a2] [nX10 cI cZ cQ h_t u_t] r0 [nX10 cI cZ cQ h_t v_t] := by
  refine MI.of (own := RX10) (by decide +kernel) rfl rfl (Nat.le_of_ble_eq_true rfl) (lv0 := [(0, .ref (h_t 0)), (1, .int a1), (2, .int a2)]) rfl ?_
  intro X O E
  unfold fX10_pieceBound at hf
  refine r_ild_n O 1 rfl 2 rfl dX10_pieceBound_0 ?_
  refine r_if_lt O 4 rfl 9 dX10_pieceBound_1 (by decide) (fun hc1 => ?_) (fun hc1 => ?_)
  · rw [if_pos hc1] at hf
    refine r_bi O 11 rfl (-2) (by decide) dX10_pieceBound_9 ?_
    obtain ⟨g0, g1⟩ := qe2 hf
    exact r_iret2 O E g0 (by rw [g1]) dX10_pieceBound_11
  · rw [if_neg hc1] at hf
    refine r_ild_n O 5 rfl 2 rfl dX10_pieceBound_4 ?_
    refine r_ic O 6 rfl 3 (by decide) dX10_pieceBound_5 ?_
    refine r_icmp_le O 9 rfl 12 dX10_pieceBound_6 (by decide) (fun hc6 => ?_) (fun hc6 => ?_)
    · rw [if_pos hc6] at hf
      refine r_ald_n O 13 rfl 0 rfl dX10_pieceBound_12 ?_
      obtain ⟨p13_t, hq13, hf⟩ := qb1_some hf
      refine k_VV O 16 rfl (zX10_tree (l := xl X) (D := xD X) (cI := cI) (cZ := cZ) (cQ := cQ) (h_t := h_t) hq13) (gV mlX10_278 mvX10_tree izX10) rfl rfl rfl hdX10_tree ⟨Nat.le_of_ble_eq_true rfl, Nat.le_of_ble_eq_true rfl⟩ rfl 0 rfl rfl rfl rfl (Nat.le_of_ble_eq_true rfl) ⟨Nat.zero_le _, Nat.zero_le _⟩ [0] rfl rfl rfl ([nX10 cI cZ cQ h_t p13_t]) rfl dX10_pieceBound_13 ?_
      refine r_ild_n O 17 rfl 1 rfl dX10_pieceBound_16 ?_
      refine r_if_lt O 20 rfl 28 dX10_pieceBound_17 (by decide) (fun hc17 => ?_) (fun hc17 => ?_)
      · rw [if_pos hc17] at hf
        refine r_bi O 30 rfl (-6) (by decide) dX10_pieceBound_28 ?_
        refine r_goto O 48 dX10_pieceBound_30 (by decide) ?_
        obtain ⟨g0, g1⟩ := qe2 hf
        exact r_iret2 O E g0 (by rw [g1]) dX10_pieceBound_48
      · rw [if_neg hc17] at hf
        refine r_ild_n O 21 rfl 1 rfl dX10_pieceBound_20 ?_
        refine r_ald_n O 22 rfl 0 rfl dX10_pieceBound_21 ?_
        refine r_get (ref := RX10) (C := RX10) (T := TX10) (N := 70) O 25 rfl inBX10 0 31 rfl rfl rfl (by decide) flX10_206 rfl rfl dX10_pieceBound_22 ?_
        refine r_icmp_lt O 28 rfl 33 dX10_pieceBound_25 (by decide) (fun hc25 => ?_) (fun hc25 => ?_)
        · rw [if_pos hc25] at hf
          refine r_ald_n O 34 rfl 0 rfl dX10_pieceBound_33 ?_
          refine r_get (ref := RX10) (C := RX10) (T := TX10) (N := 70) O 37 rfl inBX10 0 29 rfl rfl rfl (by decide) flX10_68 rfl rfl dX10_pieceBound_34 ?_
          refine r_ic O 38 rfl 4 (by decide) dX10_pieceBound_37 ?_
          refine r_ald_n O 39 rfl 0 rfl dX10_pieceBound_38 ?_
          refine r_get (ref := RX10) (C := RX10) (T := TX10) (N := 70) O 42 rfl inBX10 0 41 rfl rfl rfl (by decide) flX10_98 rfl rfl dX10_pieceBound_39 ?_
          refine r_ild_n O 43 rfl 1 rfl dX10_pieceBound_42 ?_
          obtain ⟨x43, ex43, hin43, hf⟩ := qld_some hf
          refine r_iald O 44 rfl 0 23 rfl rfl hin43 dX10_pieceBound_43 ?_
          rw [← ex43]
          refine r_imul O 45 rfl dX10_pieceBound_44 ?_
          refine r_ild_n O 46 rfl 2 rfl dX10_pieceBound_45 ?_
          refine r_iadd O 47 rfl dX10_pieceBound_46 ?_
          obtain ⟨x47, ex47, hin47, hf⟩ := qld_some hf
          refine r_iald O 48 rfl 0 13 rfl rfl hin47 dX10_pieceBound_47 ?_
          rw [← ex47]
          obtain ⟨g0, g1⟩ := qe2 hf
          exact r_iret2 O E g0 (by rw [g1]) dX10_pieceBound_48
        · rw [if_neg hc25] at hf
          refine r_bi O 30 rfl (-6) (by decide) dX10_pieceBound_28 ?_
          refine r_goto O 48 dX10_pieceBound_30 (by decide) ?_
          obtain ⟨g0, g1⟩ := qe2 hf
          exact r_iret2 O E g0 (by rw [g1]) dX10_pieceBound_48
    · rw [if_neg hc6] at hf
      refine r_bi O 11 rfl (-2) (by decide) dX10_pieceBound_9 ?_
      obtain ⟨g0, g1⟩ := qe2 hf
      exact r_iret2 O E g0 (by rw [g1]) dX10_pieceBound_11
-- X10_squaredLength
def rmX10_squaredLength : Room := { frames := 1, cells := 0, slots := 0, locals := 22 }
set_option maxHeartbeats 4000000 in
set_option maxRecDepth 100000 in
theorem zX10_squaredLength {l : Launch} {D : va_G} {cI cZ cQ : ClassId} {h_t : Nat → Nat} {u_t : Pk} {a1 : Int32} {r0 : Int32} (hf : fX10_squaredLength u_t a1 = some r0) : MI l yX10_squaredLength wsX10_squaredLength rmX10_squaredLength D (TY cI cZ cQ) [.ref (h_t 0), .int a1] [nX10 cI cZ cQ h_t u_t] r0 [nX10 cI cZ cQ h_t u_t] := by
  refine MI.of (own := RX10) (by decide +kernel) rfl rfl (Nat.le_of_ble_eq_true rfl) (lv0 := [(0, .ref (h_t 0)), (1, .int a1)]) rfl ?_
  intro X O E
  unfold fX10_squaredLength at hf
  refine r_ald_n O 1 rfl 0 rfl dX10_squaredLength_0 ?_
  refine r_ild_n O 2 rfl 1 rfl dX10_squaredLength_1 ?_
  refine r_ic O 3 rfl 3 (by decide) dX10_squaredLength_2 ?_
  obtain ⟨x3, hq3, hf⟩ := qb1_some hf
  refine k_VI O 6 rfl (zX10_at (l := xl X) (D := xD X) (cI := cI) (cZ := cZ) (cQ := cQ) (h_t := h_t) hq3) (gV mlX10_129 mvX10_at izX10) rfl rfl rfl hdX10_at ⟨Nat.le_of_ble_eq_true rfl, Nat.le_of_ble_eq_true rfl⟩ rfl 0 rfl rfl rfl rfl (Nat.le_of_ble_eq_true rfl) ⟨Nat.zero_le _, Nat.zero_le _⟩ [0] rfl rfl rfl ([nX10 cI cZ cQ h_t u_t]) rfl dX10_squaredLength_3 ?_
  refine r_ald_n O 7 rfl 0 rfl dX10_squaredLength_6 ?_
  refine r_ild_n O 8 rfl 1 rfl dX10_squaredLength_7 ?_
  refine r_ic O 9 rfl 1 (by decide) dX10_squaredLength_8 ?_
  obtain ⟨x9, hq9, hf⟩ := qb1_some hf
  refine k_VI O 12 rfl (zX10_at (l := xl X) (D := xD X) (cI := cI) (cZ := cZ) (cQ := cQ) (h_t := h_t) hq9) (gV mlX10_129 mvX10_at izX10) rfl rfl rfl hdX10_at ⟨Nat.le_of_ble_eq_true rfl, Nat.le_of_ble_eq_true rfl⟩ rfl 0 rfl rfl rfl rfl (Nat.le_of_ble_eq_true rfl) ⟨Nat.zero_le _, Nat.zero_le _⟩ [0] rfl rfl rfl ([nX10 cI cZ cQ h_t u_t]) rfl dX10_squaredLength_9 ?_
  refine r_isub O 13 rfl dX10_squaredLength_12 ?_
  obtain ⟨x13, ex13, hf⟩ := qn_some hf
  rw [← ex13]
  refine r_ist_n O 14 rfl rfl [(2, .int x13), (0, .ref (h_t 0)), (1, .int a1)] dX10_squaredLength_13 (by decide) rfl ?_
  refine r_ald_n O 15 rfl 1 rfl dX10_squaredLength_14 ?_
  refine r_ild_n O 16 rfl 2 rfl dX10_squaredLength_15 ?_
  refine r_ic O 17 rfl 4 (by decide) dX10_squaredLength_16 ?_
  obtain ⟨x17, hq17, hf⟩ := qb1_some hf
  refine k_VI O 20 rfl (zX10_at (l := xl X) (D := xD X) (cI := cI) (cZ := cZ) (cQ := cQ) (h_t := h_t) hq17) (gV mlX10_129 mvX10_at izX10) rfl rfl rfl hdX10_at ⟨Nat.le_of_ble_eq_true rfl, Nat.le_of_ble_eq_true rfl⟩ rfl 0 rfl rfl rfl rfl (Nat.le_of_ble_eq_true rfl) ⟨Nat.zero_le _, Nat.zero_le _⟩ [0] rfl rfl rfl ([nX10 cI cZ cQ h_t u_t]) rfl dX10_squaredLength_17 ?_
  refine r_ald_n O 21 rfl 1 rfl dX10_squaredLength_20 ?_
  refine r_ild_n O 22 rfl 2 rfl dX10_squaredLength_21 ?_
  refine r_ic O 23 rfl 2 (by decide) dX10_squaredLength_22 ?_
  obtain ⟨x23, hq23, hf⟩ := qb1_some hf
  refine k_VI O 26 rfl (zX10_at (l := xl X) (D := xD X) (cI := cI) (cZ := cZ) (cQ := cQ) (h_t := h_t) hq23) (gV mlX10_129 mvX10_at izX10) rfl rfl rfl hdX10_at ⟨Nat.le_of_ble_eq_true rfl, Nat.le_of_ble_eq_true rfl⟩ rfl 0 rfl rfl rfl rfl (Nat.le_of_ble_eq_true rfl) ⟨Nat.zero_le _, Nat.zero_le _⟩ [0] rfl rfl rfl ([nX10 cI cZ cQ h_t u_t]) rfl dX10_squaredLength_23 ?_
  refine r_isub O 27 rfl dX10_squaredLength_26 ?_
  obtain ⟨x27, ex27, hf⟩ := qn_some hf
  rw [← ex27]
  refine r_ist_n O 28 rfl rfl [(3, .int x27), (2, .int x13), (0, .ref (h_t 0)), (1, .int a1)] dX10_squaredLength_27 (by decide) rfl ?_
  refine r_ild_n O 29 rfl 1 rfl dX10_squaredLength_28 ?_
  refine r_ild_n O 30 rfl 1 rfl dX10_squaredLength_29 ?_
  refine r_imul O 31 rfl dX10_squaredLength_30 ?_
  refine r_ild_n O 32 rfl 0 rfl dX10_squaredLength_31 ?_
  refine r_ild_n O 33 rfl 0 rfl dX10_squaredLength_32 ?_
  refine r_imul O 34 rfl dX10_squaredLength_33 ?_
  refine r_iadd O 35 rfl dX10_squaredLength_34 ?_
  obtain g0 := qe1 hf
  exact r_iret2 O E g0 rfl dX10_squaredLength_35
-- X10_root
def rmX10_root : Room := { frames := 0, cells := 0, slots := 0, locals := 0 }
set_option maxHeartbeats 4000000 in
set_option maxRecDepth 100000 in
theorem zX10_root {l : Launch} {D : va_G} {cI cZ cQ : ClassId} {a1 : Int32} {r0 : UInt64} (hf : fX10_root a1 = some r0) : MD l yX10_root wsX10_root rmX10_root D (TY cI cZ cQ) [.int a1] [] r0 [] := by
  refine MD.of (own := RX10) (by decide +kernel) rfl rfl (Nat.le_of_ble_eq_true rfl) (lv0 := [(0, .int a1)]) rfl ?_
  intro X O E
  have B113 : ∀ n : Nat, ∀ (y5 : Int32) (y7 : UInt64) (y9 : Int32), fX10_root_b113 n y5 y7 y9 = some r0 → BK X 10 0 0 113 ([]) [(5, .int y5), (7, .double y7), (9, .int y9)] [] := by
    intro n
    induction n with
    | zero => exact fun _ _ _ hf => qno hf
    | succ n hrec113 =>
      intro y5 y7 y9 hf
      have hf : fX10_root_b113_s (fX10_root_b113 n) y5 y7 y9 = some r0 := hf
      generalize fX10_root_b113 n = rec113 at hf hrec113
      unfold fX10_root_b113_s at hf
      refine r_ild O 115 rfl 2 rfl dX10_root_113 ?_
      refine r_ild O 117 rfl 0 rfl dX10_root_115 ?_
      refine r_icmp_ge O 120 rfl 134 dX10_root_117 (by decide) (fun hc117 => ?_) (fun hc117 => ?_)
      · rw [if_pos hc117] at hf
        refine r_dld O 136 rfl 1 rfl dX10_root_134 ?_
        obtain g0 := qe1 hf
        exact r_dret2 O E g0 rfl dX10_root_136
      · rw [if_neg hc117] at hf
        refine r_dld O 122 rfl 1 rfl dX10_root_120 ?_
        refine r_ldcd O 125 rfl (v := 4611686018427387904) clX10_287 dX10_root_122 ?_
        obtain ⟨hnn125, hf⟩ := qnn_some hf
        refine r_ddiv O 126 rfl dX10_root_125 hnn125 ?_
        obtain ⟨x126, ex126, hf⟩ := qn_some hf
        rw [← ex126]
        refine r_dst O 128 rfl [(7, .double x126), (5, .int y5), (9, .int y9)] dX10_root_126 (by decide) rfl ?_
        obtain ⟨x128, ex128, hf⟩ := qn_some hf
        refine r_iinc O 131 rfl x128 2 rfl (by rw [ex128]; rfl) [(9, .int x128), (7, .double x126), (5, .int y5)] dX10_root_128 (by decide) rfl ?_
        refine r_goto O 113 dX10_root_131 (by decide) ?_
        refine r_lv [2, 1, 0] rfl ?_
        exact hrec113 _ _ _ hf
  have B107 : ∀ (y5 : Int32) (z0 : Int64), fX10_root_b107 y5 z0 = some r0 → BK X 10 0 0 107 ([]) [(5, .int y5)] [.long z0] := by
    intro y5 z0 hf
    unfold fX10_root_b107 at hf
    refine r_l2d O 108 rfl dX10_root_107 ?_
    obtain ⟨x108, ex108, hf⟩ := qn_some hf
    rw [← ex108]
    refine r_dst O 110 rfl [(7, .double x108), (5, .int y5)] dX10_root_108 (by decide) rfl ?_
    refine r_ic O 111 rfl 0 (by decide) dX10_root_110 ?_
    refine r_ist O 113 rfl [(9, .int 0), (7, .double x108), (5, .int y5)] dX10_root_111 (by decide) rfl ?_
    refine r_lv [2, 1, 0] rfl ?_
    exact B113 FU _ _ _ hf
  have B85 : ∀ (rec11 : Int32 → Int64 → Int64 → Int32 → Int32 → Option (UInt64)), (∀ (y0 : Int32) (y1 : Int64) (y3 : Int64) (y5 : Int32) (y6 : Int32), rec11 y0 y1 y3 y5 y6 = some r0 → BK X 10 0 0 11 ([]) [(0, .int y0), (1, .long y1), (3, .long y3), (5, .int y5), (6, .int y6)] []) → ∀ (y0 : Int32) (y1 : Int64) (y3 : Int64) (y6 : Int32) (z0 : Int32) (z1 : Int32), fX10_root_b85 rec11 y0 y1 y3 y6 z0 z1 = some r0 → BK X 10 0 0 85 ([]) [(0, .int y0), (1, .long y1), (3, .long y3), (6, .int y6)] [.int z1, .int z0] := by
    intro rec11 hrec11 y0 y1 y3 y6 z0 z1 hf
    unfold fX10_root_b85 at hf
    refine r_iadd O 86 rfl dX10_root_85 ?_
    obtain ⟨x86, ex86, hf⟩ := qn_some hf
    rw [← ex86]
    refine r_ist O 88 rfl [(5, .int x86), (0, .int y0), (1, .long y1), (3, .long y3), (6, .int y6)] dX10_root_86 (by decide) rfl ?_
    obtain ⟨x88, ex88, hf⟩ := qn_some hf
    refine r_iinc O 91 rfl x88 4 rfl (by rw [ex88]; rfl) [(6, .int x88), (5, .int x86), (0, .int y0), (1, .long y1), (3, .long y3)] dX10_root_88 (by decide) rfl ?_
    refine r_goto O 11 dX10_root_91 (by decide) ?_
    refine r_lv [2, 3, 4, 1, 0] rfl ?_
    exact hrec11 _ _ _ _ _ hf
  have B73 : ∀ (rec11 : Int32 → Int64 → Int64 → Int32 → Int32 → Option (UInt64)), (∀ (y0 : Int32) (y1 : Int64) (y3 : Int64) (y5 : Int32) (y6 : Int32), rec11 y0 y1 y3 y5 y6 = some r0 → BK X 10 0 0 11 ([]) [(0, .int y0), (1, .long y1), (3, .long y3), (5, .int y5), (6, .int y6)] []) → ∀ (y0 : Int32) (y1 : Int64) (y3 : Int64) (y5 : Int32) (y6 : Int32), fX10_root_b73 rec11 y0 y1 y3 y5 y6 = some r0 → BK X 10 0 0 73 ([]) [(0, .int y0), (1, .long y1), (3, .long y3), (5, .int y5), (6, .int y6)] [] := by
    intro rec11 hrec11 y0 y1 y3 y5 y6 hf
    unfold fX10_root_b73 at hf
    refine r_ild O 75 rfl 3 rfl dX10_root_73 ?_
    refine r_ild O 77 rfl 4 rfl dX10_root_75 ?_
    refine r_if_ge O 80 rfl 84 dX10_root_77 (by decide) (fun hc77 => ?_) (fun hc77 => ?_)
    · rw [if_pos hc77] at hf
      refine r_ic O 85 rfl 0 (by decide) dX10_root_84 ?_
      refine r_lv [0, 1, 2, 4] rfl ?_
      exact B85 rec11 hrec11 _ _ _ _ _ _ hf
    · rw [if_neg hc77] at hf
      refine r_ic O 81 rfl 1 (by decide) dX10_root_80 ?_
      refine r_goto O 85 dX10_root_81 (by decide) ?_
      refine r_lv [0, 1, 2, 4] rfl ?_
      exact B85 rec11 hrec11 _ _ _ _ _ _ hf
  have B39 : ∀ (rec11 : Int32 → Int64 → Int64 → Int32 → Int32 → Option (UInt64)), (∀ (y0 : Int32) (y1 : Int64) (y3 : Int64) (y5 : Int32) (y6 : Int32), rec11 y0 y1 y3 y5 y6 = some r0 → BK X 10 0 0 11 ([]) [(0, .int y0), (1, .long y1), (3, .long y3), (5, .int y5), (6, .int y6)] []) → ∀ (y0 : Int32) (y1 : Int64) (y5 : Int32) (y6 : Int32) (z0 : Int64) (z1 : Int32), fX10_root_b39 rec11 y0 y1 y5 y6 z0 z1 = some r0 → BK X 10 0 0 39 ([]) [(0, .int y0), (1, .long y1), (5, .int y5), (6, .int y6)] [.int z1, .long z0] := by
    intro rec11 hrec11 y0 y1 y5 y6 z0 z1 hf
    unfold fX10_root_b39 at hf
    refine r_i2l O 40 rfl dX10_root_39 ?_
    refine r_ladd O 41 rfl dX10_root_40 ?_
    obtain ⟨x41, ex41, hf⟩ := qn_some hf
    rw [← ex41]
    refine r_lst_n O 42 rfl rfl [(3, .long x41), (0, .int y0), (1, .long y1), (5, .int y5), (6, .int y6)] dX10_root_41 (by decide) rfl ?_
    refine r_ldcl O 45 rfl (v := 4) clX10_283 dX10_root_42 ?_
    refine r_lld_n O 46 rfl 2 rfl dX10_root_45 ?_
    refine r_lmul O 47 rfl dX10_root_46 ?_
    refine r_lc O 48 rfl 1 (by decide) dX10_root_47 ?_
    refine r_ladd O 49 rfl dX10_root_48 ?_
    obtain ⟨x49, ex49, hf⟩ := qn_some hf
    rw [← ex49]
    refine r_lst O 51 rfl [(7, .long x49), (3, .long x41), (0, .int y0), (1, .long y1), (5, .int y5), (6, .int y6)] dX10_root_49 (by decide) rfl ?_
    refine r_ldcl O 54 rfl (v := 2) clX10_285 dX10_root_51 ?_
    refine r_lld_n O 55 rfl 3 rfl dX10_root_54 ?_
    refine r_lmul O 56 rfl dX10_root_55 ?_
    obtain ⟨x56, ex56, hf⟩ := qn_some hf
    rw [← ex56]
    refine r_lst_n O 57 rfl rfl [(1, .long x56), (7, .long x49), (3, .long x41), (0, .int y0), (5, .int y5), (6, .int y6)] dX10_root_56 (by decide) rfl ?_
    refine r_lld_n O 58 rfl 2 rfl dX10_root_57 ?_
    refine r_lld O 60 rfl 1 rfl dX10_root_58 ?_
    refine r_lcmp O 61 rfl dX10_root_60 ?_
    refine r_if_lt O 64 rfl 73 dX10_root_61 (by decide) (fun hc61 => ?_) (fun hc61 => ?_)
    · rw [if_pos hc61] at hf
      refine r_lv [3, 0, 2, 4, 5] rfl ?_
      exact B73 rec11 hrec11 _ _ _ _ _ hf
    · rw [if_neg hc61] at hf
      refine r_lld_n O 65 rfl 2 rfl dX10_root_64 ?_
      refine r_lld O 67 rfl 1 rfl dX10_root_65 ?_
      refine r_lsub O 68 rfl dX10_root_67 ?_
      obtain ⟨x68, ex68, hf⟩ := qn_some hf
      rw [← ex68]
      refine r_lst_n O 69 rfl rfl [(3, .long x68), (1, .long x56), (7, .long x49), (0, .int y0), (5, .int y5), (6, .int y6)] dX10_root_68 (by decide) rfl ?_
      refine r_lld_n O 70 rfl 1 rfl dX10_root_69 ?_
      refine r_lc O 71 rfl 1 (by decide) dX10_root_70 ?_
      refine r_ladd O 72 rfl dX10_root_71 ?_
      obtain ⟨x72, ex72, hf⟩ := qn_some hf
      rw [← ex72]
      refine r_lst_n O 73 rfl rfl [(1, .long x72), (3, .long x68), (7, .long x49), (0, .int y0), (5, .int y5), (6, .int y6)] dX10_root_72 (by decide) rfl ?_
      refine r_lv [3, 0, 1, 4, 5] rfl ?_
      exact B73 rec11 hrec11 _ _ _ _ _ hf
  have B11 : ∀ n : Nat, ∀ (y0 : Int32) (y1 : Int64) (y3 : Int64) (y5 : Int32) (y6 : Int32), fX10_root_b11 n y0 y1 y3 y5 y6 = some r0 → BK X 10 0 0 11 ([]) [(0, .int y0), (1, .long y1), (3, .long y3), (5, .int y5), (6, .int y6)] [] := by
    intro n
    induction n with
    | zero => exact fun _ _ _ _ _ hf => qno hf
    | succ n hrec11 =>
      intro y0 y1 y3 y5 y6 hf
      have hf : fX10_root_b11_s (fX10_root_b11 n) y0 y1 y3 y5 y6 = some r0 := hf
      generalize fX10_root_b11 n = rec11 at hf hrec11
      unfold fX10_root_b11_s at hf
      refine r_lld_n O 12 rfl 1 rfl dX10_root_11 ?_
      refine r_ldcl O 15 rfl (v := 4503599627370496) clX10_281 dX10_root_12 ?_
      refine r_lcmp O 16 rfl dX10_root_15 ?_
      refine r_if_ge O 19 rfl 94 dX10_root_16 (by decide) (fun hc16 => ?_) (fun hc16 => ?_)
      · rw [if_pos hc16] at hf
        refine r_lld_n O 95 rfl 2 rfl dX10_root_94 ?_
        refine r_lld_n O 96 rfl 1 rfl dX10_root_95 ?_
        refine r_lcmp O 97 rfl dX10_root_96 ?_
        refine r_if_le O 100 rfl 106 dX10_root_97 (by decide) (fun hc97 => ?_) (fun hc97 => ?_)
        · rw [if_pos hc97] at hf
          refine r_lld_n O 107 rfl 1 rfl dX10_root_106 ?_
          refine r_lv [3] rfl ?_
          exact B107 _ _ hf
        · rw [if_neg hc97] at hf
          refine r_lld_n O 101 rfl 1 rfl dX10_root_100 ?_
          refine r_lc O 102 rfl 1 (by decide) dX10_root_101 ?_
          refine r_ladd O 103 rfl dX10_root_102 ?_
          refine r_goto O 107 dX10_root_103 (by decide) ?_
          refine r_lv [3] rfl ?_
          exact B107 _ _ hf
      · rw [if_neg hc16] at hf
        refine r_ldcl O 22 rfl (v := 4) clX10_283 dX10_root_19 ?_
        refine r_lld_n O 23 rfl 2 rfl dX10_root_22 ?_
        refine r_lmul O 24 rfl dX10_root_23 ?_
        refine r_ild O 26 rfl 4 rfl dX10_root_24 ?_
        refine r_if_lt O 29 rfl 38 dX10_root_26 (by decide) (fun hc26 => ?_) (fun hc26 => ?_)
        · rw [if_pos hc26] at hf
          refine r_ic O 39 rfl 0 (by decide) dX10_root_38 ?_
          refine r_lv [0, 1, 3, 4] rfl ?_
          exact B39 rec11 hrec11 _ _ _ _ _ _ hf
        · rw [if_neg hc26] at hf
          refine r_ild_n O 30 rfl 0 rfl dX10_root_29 ?_
          refine r_ild O 32 rfl 4 rfl dX10_root_30 ?_
          refine r_ishr O 33 rfl dX10_root_32 ?_
          refine r_ic O 34 rfl 3 (by decide) dX10_root_33 ?_
          refine r_iand O 35 rfl dX10_root_34 ?_
          refine r_goto O 39 dX10_root_35 (by decide) ?_
          refine r_lv [0, 1, 3, 4] rfl ?_
          exact B39 rec11 hrec11 _ _ _ _ _ _ hf
  unfold fX10_root at hf
  refine r_lc O 1 rfl 0 (by decide) dX10_root_0 ?_
  refine r_lst_n O 2 rfl rfl [(1, .long 0), (0, .int a1)] dX10_root_1 (by decide) rfl ?_
  refine r_lc O 3 rfl 0 (by decide) dX10_root_2 ?_
  refine r_lst_n O 4 rfl rfl [(3, .long 0), (1, .long 0), (0, .int a1)] dX10_root_3 (by decide) rfl ?_
  refine r_ic O 5 rfl 0 (by decide) dX10_root_4 ?_
  refine r_ist O 7 rfl [(5, .int 0), (3, .long 0), (1, .long 0), (0, .int a1)] dX10_root_5 (by decide) rfl ?_
  refine r_bi O 9 rfl 12 (by decide) dX10_root_7 ?_
  refine r_ist O 11 rfl [(6, .int 12), (5, .int 0), (3, .long 0), (1, .long 0), (0, .int a1)] dX10_root_9 (by decide) rfl ?_
  refine r_lv [4, 3, 2, 1, 0] rfl ?_
  exact B11 FU _ _ _ _ _ hf
-- X10_pieceLength
def rmX10_pieceLength : Room := { frames := 9, cells := 0, slots := 0, locals := 225 }
set_option maxHeartbeats 4000000 in
set_option maxRecDepth 100000 in
theorem zX10_pieceLength {l : Launch} {D : va_G} {cI cZ cQ : ClassId} {h_t : Nat → Nat} {u_t : Pk} {a1 : Int32} {r0 : UInt64} {v_t : Pk} (hf : fX10_pieceLength u_t a1 = some (r0, v_t)) : MD l yX10_pieceLength wsX10_pieceLength rmX10_pieceLength D (TY cI cZ cQ) [.ref (h_t 0), .int a1] [nX10 cI cZ cQ h_t u_t] r0 [nX10 cI cZ cQ h_t v_t] := by
  refine MD.of (own := RX10) (by decide +kernel) rfl rfl (Nat.le_of_ble_eq_true rfl) (lv0 := [(0, .ref (h_t 0)), (1, .int a1)]) rfl ?_
  intro X O E
  unfold fX10_pieceLength at hf
  refine r_ald_n O 1 rfl 0 rfl dX10_pieceLength_0 ?_
  obtain ⟨p1_t, hq1, hf⟩ := qb1_some hf
  refine k_VV O 4 rfl (zX10_tree (l := xl X) (D := xD X) (cI := cI) (cZ := cZ) (cQ := cQ) (h_t := h_t) hq1) (gV mlX10_278 mvX10_tree izX10) rfl rfl rfl hdX10_tree ⟨Nat.le_of_ble_eq_true rfl, Nat.le_of_ble_eq_true rfl⟩ rfl 0 rfl rfl rfl rfl (Nat.le_of_ble_eq_true rfl) ⟨Nat.zero_le _, Nat.zero_le _⟩ [0] rfl rfl rfl ([nX10 cI cZ cQ h_t p1_t]) rfl dX10_pieceLength_1 ?_
  refine r_ild_n O 5 rfl 1 rfl dX10_pieceLength_4 ?_
  refine r_if_lt O 8 rfl 16 dX10_pieceLength_5 (by decide) (fun hc5 => ?_) (fun hc5 => ?_)
  · rw [if_pos hc5] at hf
    refine r_ldcd O 19 rfl (v := 13841813454723219456) clX10_289 dX10_pieceLength_16 ?_
    obtain ⟨g0, g1⟩ := qe2 hf
    exact r_dret2 O E g0 (by rw [g1]) dX10_pieceLength_19
  · rw [if_neg hc5] at hf
    refine r_ild_n O 9 rfl 1 rfl dX10_pieceLength_8 ?_
    refine r_ald_n O 10 rfl 0 rfl dX10_pieceLength_9 ?_
    refine r_get (ref := RX10) (C := RX10) (T := TX10) (N := 70) O 13 rfl inBX10 0 31 rfl rfl rfl (by decide) flX10_206 rfl rfl dX10_pieceLength_10 ?_
    refine r_icmp_lt O 16 rfl 20 dX10_pieceLength_13 (by decide) (fun hc13 => ?_) (fun hc13 => ?_)
    · rw [if_pos hc13] at hf
      refine r_ald_n O 21 rfl 0 rfl dX10_pieceLength_20 ?_
      refine r_get (ref := RX10) (C := RX10) (T := TX10) (N := 70) O 24 rfl inBX10 0 41 rfl rfl rfl (by decide) flX10_98 rfl rfl dX10_pieceLength_21 ?_
      refine r_ild_n O 25 rfl 1 rfl dX10_pieceLength_24 ?_
      obtain ⟨x25, ex25, hin25, hf⟩ := qld_some hf
      refine r_iald O 26 rfl 0 23 rfl rfl hin25 dX10_pieceLength_25 ?_
      rw [← ex25]
      refine r_ist_n O 27 rfl rfl [(2, .int x25), (0, .ref (h_t 0)), (1, .int a1)] dX10_pieceLength_26 (by decide) rfl ?_
      refine r_ald_n O 28 rfl 1 rfl dX10_pieceLength_27 ?_
      refine r_get (ref := RX10) (C := RX10) (T := TX10) (N := 70) O 31 rfl inBX10 0 29 rfl rfl rfl (by decide) flX10_68 rfl rfl dX10_pieceLength_28 ?_
      refine r_ic O 32 rfl 4 (by decide) dX10_pieceLength_31 ?_
      refine r_ild_n O 33 rfl 0 rfl dX10_pieceLength_32 ?_
      refine r_imul O 34 rfl dX10_pieceLength_33 ?_
      obtain ⟨x34, ex34, hin34, hf⟩ := qld_some hf
      refine r_iald O 35 rfl 0 13 rfl rfl hin34 dX10_pieceLength_34 ?_
      rw [← ex34]
      refine r_i2d O 36 rfl dX10_pieceLength_35 ?_
      refine r_ald_n O 37 rfl 1 rfl dX10_pieceLength_36 ?_
      refine r_get (ref := RX10) (C := RX10) (T := TX10) (N := 70) O 40 rfl inBX10 0 29 rfl rfl rfl (by decide) flX10_68 rfl rfl dX10_pieceLength_37 ?_
      refine r_ic O 41 rfl 4 (by decide) dX10_pieceLength_40 ?_
      refine r_ild_n O 42 rfl 0 rfl dX10_pieceLength_41 ?_
      refine r_imul O 43 rfl dX10_pieceLength_42 ?_
      refine r_ic O 44 rfl 1 (by decide) dX10_pieceLength_43 ?_
      refine r_iadd O 45 rfl dX10_pieceLength_44 ?_
      obtain ⟨x45, ex45, hin45, hf⟩ := qld_some hf
      refine r_iald O 46 rfl 0 13 rfl rfl hin45 dX10_pieceLength_45 ?_
      rw [← ex45]
      refine r_i2d O 47 rfl dX10_pieceLength_46 ?_
      obtain ⟨hnn47, hf⟩ := qnn_some hf
      refine r_ddiv O 48 rfl dX10_pieceLength_47 hnn47 ?_
      obtain ⟨x48, ex48, hf⟩ := qn_some hf
      rw [← ex48]
      refine r_dst_n O 49 rfl rfl [(3, .double x48), (2, .int x25), (0, .ref (h_t 0)), (1, .int a1)] dX10_pieceLength_48 (by decide) rfl ?_
      refine r_ald_n O 50 rfl 2 rfl dX10_pieceLength_49 ?_
      refine r_get (ref := RX10) (C := RX10) (T := TX10) (N := 70) O 53 rfl inBX10 0 29 rfl rfl rfl (by decide) flX10_68 rfl rfl dX10_pieceLength_50 ?_
      refine r_ic O 54 rfl 4 (by decide) dX10_pieceLength_53 ?_
      refine r_ild_n O 55 rfl 1 rfl dX10_pieceLength_54 ?_
      refine r_imul O 56 rfl dX10_pieceLength_55 ?_
      refine r_ic O 57 rfl 2 (by decide) dX10_pieceLength_56 ?_
      refine r_iadd O 58 rfl dX10_pieceLength_57 ?_
      obtain ⟨x58, ex58, hin58, hf⟩ := qld_some hf
      refine r_iald O 59 rfl 0 13 rfl rfl hin58 dX10_pieceLength_58 ?_
      rw [← ex58]
      refine r_i2d O 60 rfl dX10_pieceLength_59 ?_
      refine r_ald_n O 61 rfl 2 rfl dX10_pieceLength_60 ?_
      refine r_get (ref := RX10) (C := RX10) (T := TX10) (N := 70) O 64 rfl inBX10 0 29 rfl rfl rfl (by decide) flX10_68 rfl rfl dX10_pieceLength_61 ?_
      refine r_ic O 65 rfl 4 (by decide) dX10_pieceLength_64 ?_
      refine r_ild_n O 66 rfl 1 rfl dX10_pieceLength_65 ?_
      refine r_imul O 67 rfl dX10_pieceLength_66 ?_
      refine r_ic O 68 rfl 3 (by decide) dX10_pieceLength_67 ?_
      refine r_iadd O 69 rfl dX10_pieceLength_68 ?_
      obtain ⟨x69, ex69, hin69, hf⟩ := qld_some hf
      refine r_iald O 70 rfl 0 13 rfl rfl hin69 dX10_pieceLength_69 ?_
      rw [← ex69]
      refine r_i2d O 71 rfl dX10_pieceLength_70 ?_
      obtain ⟨hnn71, hf⟩ := qnn_some hf
      refine r_ddiv O 72 rfl dX10_pieceLength_71 hnn71 ?_
      obtain ⟨x72, ex72, hf⟩ := qn_some hf
      rw [← ex72]
      refine r_dst O 74 rfl [(5, .double x72), (3, .double x48), (2, .int x25), (0, .ref (h_t 0)), (1, .int a1)] dX10_pieceLength_72 (by decide) rfl ?_
      refine r_dld O 76 rfl 0 rfl dX10_pieceLength_74 ?_
      refine r_dld_n O 77 rfl 1 rfl dX10_pieceLength_76 ?_
      obtain ⟨hnn77, hf⟩ := qnn_some hf
      refine r_dsub O 78 rfl dX10_pieceLength_77 hnn77 ?_
      refine r_ald_n O 79 rfl 3 rfl dX10_pieceLength_78 ?_
      refine r_ald_n O 80 rfl 3 rfl dX10_pieceLength_79 ?_
      refine r_get (ref := RX10) (C := RX10) (T := TX10) (N := 70) O 83 rfl inBX10 0 27 rfl rfl rfl (by decide) flX10_62 rfl rfl dX10_pieceLength_80 ?_
      refine r_ild_n O 84 rfl 2 rfl dX10_pieceLength_83 ?_
      obtain ⟨x84, ex84, hin84, hf⟩ := qld_some hf
      refine r_iald O 85 rfl 0 11 rfl rfl hin84 dX10_pieceLength_84 ?_
      rw [← ex84]
      obtain ⟨x85, hq85, hf⟩ := qb1_some hf
      refine k_VI O 88 rfl (zX10_squaredLength (l := xl X) (D := xD X) (cI := cI) (cZ := cZ) (cQ := cQ) (h_t := h_t) hq85) (gV mlX10_291 mvX10_squaredLength izX10) rfl rfl rfl hdX10_squaredLength ⟨Nat.le_of_ble_eq_true rfl, Nat.le_of_ble_eq_true rfl⟩ rfl 0 rfl rfl rfl rfl (Nat.le_of_ble_eq_true rfl) ⟨Nat.zero_le _, Nat.zero_le _⟩ [0] rfl rfl rfl ([nX10 cI cZ cQ h_t p1_t]) rfl dX10_pieceLength_85 ?_
      obtain ⟨x88, hq88, hf⟩ := qb1_some hf
      refine k_SD O 91 rfl (zX10_root (l := xl X) (D := xD X) (cI := cI) (cZ := cZ) (cQ := cQ) hq88) (gS mlX10_294 mvX10_root izX10) rfl rfl rfl hdX10_root ⟨Nat.le_of_ble_eq_true rfl, Nat.le_of_ble_eq_true rfl⟩ rfl rfl (Nat.le_of_ble_eq_true rfl) ⟨Nat.zero_le _, Nat.zero_le _⟩ [] rfl rfl rfl ([nX10 cI cZ cQ h_t p1_t]) rfl dX10_pieceLength_88 ?_
      obtain ⟨hnn91, hf⟩ := qnn_some hf
      refine r_dmul O 92 rfl dX10_pieceLength_91 hnn91 ?_
      obtain ⟨g0, g1⟩ := qe2 hf
      exact r_dret2 O E g0 (by rw [g1]) dX10_pieceLength_92
    · rw [if_neg hc13] at hf
      refine r_ldcd O 19 rfl (v := 13841813454723219456) clX10_289 dX10_pieceLength_16 ?_
      obtain ⟨g0, g1⟩ := qe2 hf
      exact r_dret2 O E g0 (by rw [g1]) dX10_pieceLength_19
-- X10_isPoint
def rmX10_isPoint : Room := { frames := 1, cells := 0, slots := 0, locals := 20 }
set_option maxHeartbeats 4000000 in
set_option maxRecDepth 100000 in
theorem zX10_isPoint {l : Launch} {D : va_G} {cI cZ cQ : ClassId} {a1 : Int32} {a2 : Int32} {r0 : Int32} (hf : fX10_isPoint a1 a2 = some r0) : MZ l yX10_isPoint wsX10_isPoint rmX10_isPoint D (TY cI cZ cQ) [.int a1, .int a2] [] r0 [] := by
  refine MZ.of (own := RX10) (by decide +kernel) rfl rfl (Nat.le_of_ble_eq_true rfl) (lv0 := [(0, .int a1), (1, .int a2)]) rfl ?_
  intro X O E
  unfold fX10_isPoint at hf
  refine r_ild_n O 1 rfl 0 rfl dX10_isPoint_0 ?_
  obtain ⟨x1, hq1, hf⟩ := qb1_some hf
  refine k_SZ O 4 rfl (zX10_isCoordinate (l := xl X) (D := xD X) (cI := cI) (cZ := cZ) (cQ := cQ) hq1) (gS mlX10_125 mvX10_isCoordinate izX10) rfl rfl rfl hdX10_isCoordinate ⟨Nat.le_of_ble_eq_true rfl, Nat.le_of_ble_eq_true rfl⟩ rfl rfl (Nat.le_of_ble_eq_true rfl) ⟨Nat.zero_le _, Nat.zero_le _⟩ [] rfl rfl rfl ([]) rfl dX10_isPoint_1 (fun hz1 => ?_)
  refine r_if_eq O 7 rfl 18 dX10_isPoint_4 (by decide) (fun hc4 => ?_) (fun hc4 => ?_)
  · rw [if_pos hc4] at hf
    refine r_ic O 19 rfl 0 (by decide) dX10_isPoint_18 ?_
    obtain g0 := qe1 hf
    exact r_zret2 O E g0 rfl rfl dX10_isPoint_19
  · rw [if_neg hc4] at hf
    refine r_ild_n O 8 rfl 1 rfl dX10_isPoint_7 ?_
    obtain ⟨x8, hq8, hf⟩ := qb1_some hf
    refine k_SZ O 11 rfl (zX10_isCoordinate (l := xl X) (D := xD X) (cI := cI) (cZ := cZ) (cQ := cQ) hq8) (gS mlX10_125 mvX10_isCoordinate izX10) rfl rfl rfl hdX10_isCoordinate ⟨Nat.le_of_ble_eq_true rfl, Nat.le_of_ble_eq_true rfl⟩ rfl rfl (Nat.le_of_ble_eq_true rfl) ⟨Nat.zero_le _, Nat.zero_le _⟩ [] rfl rfl rfl ([]) rfl dX10_isPoint_8 (fun hz8 => ?_)
    refine r_if_eq O 14 rfl 18 dX10_isPoint_11 (by decide) (fun hc11 => ?_) (fun hc11 => ?_)
    · rw [if_pos hc11] at hf
      refine r_ic O 19 rfl 0 (by decide) dX10_isPoint_18 ?_
      obtain g0 := qe1 hf
      exact r_zret2 O E g0 rfl rfl dX10_isPoint_19
    · rw [if_neg hc11] at hf
      refine r_ic O 15 rfl 1 (by decide) dX10_isPoint_14 ?_
      refine r_goto O 19 dX10_isPoint_15 (by decide) ?_
      obtain g0 := qe1 hf
      exact r_zret2 O E g0 rfl rfl dX10_isPoint_19
-- X10_locate
def rmX10_locate : Room := { frames := 9, cells := 0, slots := 0, locals := 225 }
set_option maxHeartbeats 4000000 in
set_option maxRecDepth 100000 in
theorem zX10_locate {l : Launch} {D : va_G} {cI cZ cQ : ClassId} {h_t : Nat → Nat} {u_t : Pk} {a1 : Int32} {a2 : Int32} {r0 : Int32} {v_t : Pk} (hf : fX10_locate u_t a1 a2 = some (r0, v_t)) : MI l yX10_locate wsX10_locate rmX10_locate D (TY cI cZ cQ) [.ref (h_t 0), .int a1, .int a2] [nX10 cI cZ cQ h_t u_t] r0 [nX10 cI cZ cQ h_t v_t] := by
  refine MI.of (own := RX10) (by decide +kernel) rfl rfl (Nat.le_of_ble_eq_true rfl) (lv0 := [(0, .ref (h_t 0)), (1, .int a1), (2, .int a2)]) rfl ?_
  intro X O E
  have B92 : ∀ (rec23 : Pk → Int32 → Int32 → Int32 → Int32 → Option (Int32 × Pk)), (∀ (w_t : Pk) (y1 : Int32) (y2 : Int32) (y3 : Int32) (y4 : Int32), rec23 w_t y1 y2 y3 y4 = some (r0, v_t) → BK X 6 0 0 23 ([nX10 cI cZ cQ h_t w_t]) [(0, .ref (h_t 0)), (1, .int y1), (2, .int y2), (3, .int y3), (4, .int y4)] []) → ∀ (w_t : Pk) (y1 : Int32) (y2 : Int32) (y3 : Int32) (z0 : Int32), fX10_locate_b92 rec23 w_t y1 y2 y3 z0 = some (r0, v_t) → BK X 6 0 0 92 ([nX10 cI cZ cQ h_t w_t]) [(0, .ref (h_t 0)), (1, .int y1), (2, .int y2), (3, .int y3)] [.int z0] := by
    intro rec23 hrec23 w_t y1 y2 y3 z0 hf
    unfold fX10_locate_b92 at hf
    refine r_ist O 94 rfl [(4, .int z0), (0, .ref (h_t 0)), (1, .int y1), (2, .int y2), (3, .int y3)] dX10_locate_92 (by decide) rfl ?_
    refine r_goto O 23 dX10_locate_94 (by decide) ?_
    refine r_lv [1, 2, 3, 4, 0] rfl ?_
    exact hrec23 _ _ _ _ _ hf
  have B69 : ∀ (rec23 : Pk → Int32 → Int32 → Int32 → Int32 → Option (Int32 × Pk)), (∀ (w_t : Pk) (y1 : Int32) (y2 : Int32) (y3 : Int32) (y4 : Int32), rec23 w_t y1 y2 y3 y4 = some (r0, v_t) → BK X 6 0 0 23 ([nX10 cI cZ cQ h_t w_t]) [(0, .ref (h_t 0)), (1, .int y1), (2, .int y2), (3, .int y3), (4, .int y4)] []) → ∀ (w_t : Pk) (y1 : Int32) (y2 : Int32) (y4 : Int32) (y5 : Int32) (z0 : Int32), fX10_locate_b69 rec23 w_t y1 y2 y4 y5 z0 = some (r0, v_t) → BK X 6 0 0 69 ([nX10 cI cZ cQ h_t w_t]) [(0, .ref (h_t 0)), (1, .int y1), (2, .int y2), (4, .int y4), (5, .int y5)] [.int z0] := by
    intro rec23 hrec23 w_t y1 y2 y4 y5 z0 hf
    unfold fX10_locate_b69 at hf
    refine r_ist_n O 70 rfl rfl [(3, .int z0), (0, .ref (h_t 0)), (1, .int y1), (2, .int y2), (4, .int y4), (5, .int y5)] dX10_locate_69 (by decide) rfl ?_
    refine r_ild O 72 rfl 5 rfl dX10_locate_70 ?_
    refine r_if_eq O 75 rfl 85 dX10_locate_72 (by decide) (fun hc72 => ?_) (fun hc72 => ?_)
    · rw [if_pos hc72] at hf
      refine r_ald_n O 86 rfl 1 rfl dX10_locate_85 ?_
      refine r_get (ref := RX10) (C := RX10) (T := TX10) (N := 70) O 89 rfl inBX10 0 22 rfl rfl rfl (by decide) flX10_53 rfl rfl dX10_locate_86 ?_
      refine r_ild O 91 rfl 4 rfl dX10_locate_89 ?_
      obtain ⟨x91, ex91, hin91, hf⟩ := qld_some hf
      refine r_iald O 92 rfl 0 8 rfl rfl hin91 dX10_locate_91 ?_
      rw [← ex91]
      refine r_lv [1, 2, 3, 0] rfl ?_
      exact B92 rec23 hrec23 _ _ _ _ _ hf
    · rw [if_neg hc72] at hf
      refine r_ald_n O 76 rfl 1 rfl dX10_locate_75 ?_
      refine r_get (ref := RX10) (C := RX10) (T := TX10) (N := 70) O 79 rfl inBX10 0 21 rfl rfl rfl (by decide) flX10_50 rfl rfl dX10_locate_76 ?_
      refine r_ild O 81 rfl 4 rfl dX10_locate_79 ?_
      obtain ⟨x81, ex81, hin81, hf⟩ := qld_some hf
      refine r_iald O 82 rfl 0 7 rfl rfl hin81 dX10_locate_81 ?_
      rw [← ex81]
      refine r_goto O 92 dX10_locate_82 (by decide) ?_
      refine r_lv [1, 2, 3, 0] rfl ?_
      exact B92 rec23 hrec23 _ _ _ _ _ hf
  have B49 : ∀ (rec23 : Pk → Int32 → Int32 → Int32 → Int32 → Option (Int32 × Pk)), (∀ (w_t : Pk) (y1 : Int32) (y2 : Int32) (y3 : Int32) (y4 : Int32), rec23 w_t y1 y2 y3 y4 = some (r0, v_t) → BK X 6 0 0 23 ([nX10 cI cZ cQ h_t w_t]) [(0, .ref (h_t 0)), (1, .int y1), (2, .int y2), (3, .int y3), (4, .int y4)] []) → ∀ (w_t : Pk) (y1 : Int32) (y2 : Int32) (y4 : Int32) (z0 : Int32), fX10_locate_b49 rec23 w_t y1 y2 y4 z0 = some (r0, v_t) → BK X 6 0 0 49 ([nX10 cI cZ cQ h_t w_t]) [(0, .ref (h_t 0)), (1, .int y1), (2, .int y2), (4, .int y4)] [.int z0] := by
    intro rec23 hrec23 w_t y1 y2 y4 z0 hf
    unfold fX10_locate_b49 at hf
    refine r_ist O 51 rfl [(5, .int z0), (0, .ref (h_t 0)), (1, .int y1), (2, .int y2), (4, .int y4)] dX10_locate_49 (by decide) rfl ?_
    refine r_ild O 53 rfl 0 rfl dX10_locate_51 ?_
    refine r_if_eq O 56 rfl 63 dX10_locate_53 (by decide) (fun hc53 => ?_) (fun hc53 => ?_)
    · rw [if_pos hc53] at hf
      refine r_ic O 64 rfl 2 (by decide) dX10_locate_63 ?_
      refine r_ild O 66 rfl 4 rfl dX10_locate_64 ?_
      refine r_imul O 67 rfl dX10_locate_66 ?_
      refine r_ic O 68 rfl 1 (by decide) dX10_locate_67 ?_
      refine r_iadd O 69 rfl dX10_locate_68 ?_
      refine r_lv [1, 2, 3, 4, 0] rfl ?_
      exact B69 rec23 hrec23 _ _ _ _ _ _ hf
    · rw [if_neg hc53] at hf
      refine r_ic O 57 rfl 2 (by decide) dX10_locate_56 ?_
      refine r_ild O 59 rfl 4 rfl dX10_locate_57 ?_
      refine r_imul O 60 rfl dX10_locate_59 ?_
      refine r_goto O 69 dX10_locate_60 (by decide) ?_
      refine r_lv [1, 2, 3, 4, 0] rfl ?_
      exact B69 rec23 hrec23 _ _ _ _ _ _ hf
  have B23 : ∀ n : Nat, ∀ (w_t : Pk) (y1 : Int32) (y2 : Int32) (y3 : Int32) (y4 : Int32), fX10_locate_b23 n w_t y1 y2 y3 y4 = some (r0, v_t) → BK X 6 0 0 23 ([nX10 cI cZ cQ h_t w_t]) [(0, .ref (h_t 0)), (1, .int y1), (2, .int y2), (3, .int y3), (4, .int y4)] [] := by
    intro n
    induction n with
    | zero => exact fun _ _ _ _ _ hf => qno hf
    | succ n hrec23 =>
      intro w_t y1 y2 y3 y4 hf
      have hf : fX10_locate_b23_s (fX10_locate_b23 n) w_t y1 y2 y3 y4 = some (r0, v_t) := hf
      generalize fX10_locate_b23 n = rec23 at hf hrec23
      unfold fX10_locate_b23_s at hf
      refine r_ild O 25 rfl 4 rfl dX10_locate_23 ?_
      refine r_if_lt O 28 rfl 97 dX10_locate_25 (by decide) (fun hc25 => ?_) (fun hc25 => ?_)
      · rw [if_pos hc25] at hf
        refine r_ild_n O 98 rfl 3 rfl dX10_locate_97 ?_
        refine r_if_ge O 101 rfl 108 dX10_locate_98 (by decide) (fun hc98 => ?_) (fun hc98 => ?_)
        · rw [if_pos hc98] at hf
          refine r_ald_n O 109 rfl 0 rfl dX10_locate_108 ?_
          refine r_get (ref := RX10) (C := RX10) (T := TX10) (N := 70) O 112 rfl inBX10 0 44 rfl rfl rfl (by decide) flX10_107 rfl rfl dX10_locate_109 ?_
          refine r_ild_n O 113 rfl 3 rfl dX10_locate_112 ?_
          obtain ⟨x113, ex113, hin113, hf⟩ := qld_some hf
          refine r_iald O 114 rfl 0 26 rfl rfl hin113 dX10_locate_113 ?_
          rw [← ex113]
          obtain ⟨g0, g1⟩ := qe2 hf
          exact r_iret2 O E g0 (by rw [g1]) dX10_locate_114
        · rw [if_neg hc98] at hf
          refine r_ald_n O 102 rfl 0 rfl dX10_locate_101 ?_
          refine r_get (ref := RX10) (C := RX10) (T := TX10) (N := 70) O 105 rfl inBX10 0 45 rfl rfl rfl (by decide) flX10_251 rfl rfl dX10_locate_102 ?_
          refine r_goto O 114 dX10_locate_105 (by decide) ?_
          obtain ⟨g0, g1⟩ := qe2 hf
          exact r_iret2 O E g0 (by rw [g1]) dX10_locate_114
      · rw [if_neg hc25] at hf
        refine r_ald_n O 29 rfl 0 rfl dX10_locate_28 ?_
        refine r_ald_n O 30 rfl 0 rfl dX10_locate_29 ?_
        refine r_get (ref := RX10) (C := RX10) (T := TX10) (N := 70) O 33 rfl inBX10 0 20 rfl rfl rfl (by decide) flX10_47 rfl rfl dX10_locate_30 ?_
        refine r_ild O 35 rfl 4 rfl dX10_locate_33 ?_
        obtain ⟨x35, ex35, hin35, hf⟩ := qld_some hf
        refine r_iald O 36 rfl 0 6 rfl rfl hin35 dX10_locate_35 ?_
        rw [← ex35]
        refine r_ild_n O 37 rfl 1 rfl dX10_locate_36 ?_
        refine r_ild_n O 38 rfl 2 rfl dX10_locate_37 ?_
        obtain ⟨x38, hq38, hf⟩ := qb1_some hf
        refine k_VI O 41 rfl (zX10_side (l := xl X) (D := xD X) (cI := cI) (cZ := cZ) (cQ := cQ) (h_t := h_t) hq38) (gV mlX10_183 mvX10_side izX10) rfl rfl rfl hdX10_side ⟨Nat.le_of_ble_eq_true rfl, Nat.le_of_ble_eq_true rfl⟩ rfl 0 rfl rfl rfl rfl (Nat.le_of_ble_eq_true rfl) ⟨Nat.zero_le _, Nat.zero_le _⟩ [0] rfl rfl rfl ([nX10 cI cZ cQ h_t w_t]) rfl dX10_locate_38 ?_
        refine r_if_lt O 44 rfl 48 dX10_locate_41 (by decide) (fun hc41 => ?_) (fun hc41 => ?_)
        · rw [if_pos hc41] at hf
          refine r_ic O 49 rfl 0 (by decide) dX10_locate_48 ?_
          refine r_lv [0, 1, 2, 4] rfl ?_
          exact B49 rec23 hrec23 _ _ _ _ _ hf
        · rw [if_neg hc41] at hf
          refine r_ic O 45 rfl 1 (by decide) dX10_locate_44 ?_
          refine r_goto O 49 dX10_locate_45 (by decide) ?_
          refine r_lv [0, 1, 2, 4] rfl ?_
          exact B49 rec23 hrec23 _ _ _ _ _ hf
  unfold fX10_locate at hf
  refine r_ild_n O 1 rfl 1 rfl dX10_locate_0 ?_
  refine r_ild_n O 2 rfl 2 rfl dX10_locate_1 ?_
  obtain ⟨x2, hq2, hf⟩ := qb1_some hf
  refine k_SZ O 5 rfl (zX10_isPoint (l := xl X) (D := xD X) (cI := cI) (cZ := cZ) (cQ := cQ) hq2) (gS mlX10_297 mvX10_isPoint izX10) rfl rfl rfl hdX10_isPoint ⟨Nat.le_of_ble_eq_true rfl, Nat.le_of_ble_eq_true rfl⟩ rfl rfl (Nat.le_of_ble_eq_true rfl) ⟨Nat.zero_le _, Nat.zero_le _⟩ [] rfl rfl rfl ([nX10 cI cZ cQ h_t u_t]) rfl dX10_locate_2 (fun hz2 => ?_)
  refine r_if_ne O 8 rfl 11 dX10_locate_5 (by decide) (fun hc5 => ?_) (fun hc5 => ?_)
  · rw [if_neg hc5] at hf
    refine r_ald_n O 12 rfl 0 rfl dX10_locate_11 ?_
    obtain ⟨p12_t, hq12, hf⟩ := qb1_some hf
    refine k_VV O 15 rfl (zX10_tree (l := xl X) (D := xD X) (cI := cI) (cZ := cZ) (cQ := cQ) (h_t := h_t) hq12) (gV mlX10_278 mvX10_tree izX10) rfl rfl rfl hdX10_tree ⟨Nat.le_of_ble_eq_true rfl, Nat.le_of_ble_eq_true rfl⟩ rfl 0 rfl rfl rfl rfl (Nat.le_of_ble_eq_true rfl) ⟨Nat.zero_le _, Nat.zero_le _⟩ [0] rfl rfl rfl ([nX10 cI cZ cQ h_t p12_t]) rfl dX10_locate_12 ?_
    refine r_ic O 16 rfl (-1) (by decide) dX10_locate_15 ?_
    refine r_ist_n O 17 rfl rfl [(3, .int (-1)), (0, .ref (h_t 0)), (1, .int a1), (2, .int a2)] dX10_locate_16 (by decide) rfl ?_
    refine r_ald_n O 18 rfl 1 rfl dX10_locate_17 ?_
    refine r_get (ref := RX10) (C := RX10) (T := TX10) (N := 70) O 21 rfl inBX10 0 26 rfl rfl rfl (by decide) flX10_212 rfl rfl dX10_locate_18 ?_
    obtain ⟨x21, ex21, hf⟩ := qn_some hf
    rw [← ex21]
    refine r_ist O 23 rfl [(4, .int x21), (3, .int (-1)), (0, .ref (h_t 0)), (1, .int a1), (2, .int a2)] dX10_locate_21 (by decide) rfl ?_
    refine r_lv [2, 3, 4, 1, 0] rfl ?_
    exact B23 FU _ _ _ _ _ hf
  · rw [if_pos hc5] at hf
    refine r_bi O 10 rfl (-2) (by decide) dX10_locate_8 ?_
    obtain ⟨g0, g1⟩ := qe2 hf
    exact r_iret2 O E g0 (by rw [g1]) dX10_locate_10
-- X10_meanLeafDepth
def rmX10_meanLeafDepth : Room := { frames := 9, cells := 0, slots := 0, locals := 225 }
set_option maxHeartbeats 4000000 in
set_option maxRecDepth 100000 in
theorem zX10_meanLeafDepth {l : Launch} {D : va_G} {cI cZ cQ : ClassId} {h_t : Nat → Nat} {u_t : Pk} {r0 : UInt64} {v_t : Pk} (hf : fX10_meanLeafDepth u_t = some (r0, v_t)) : MD l yX10_meanLeafDepth wsX10_meanLeafDepth rmX10_meanLeafDepth D (TY cI cZ cQ) [.ref (h_t 0)] [nX10 cI cZ cQ h_t u_t] r0 [nX10 cI cZ cQ h_t v_t] := by
  refine MD.of (own := RX10) (by decide +kernel) rfl rfl (Nat.le_of_ble_eq_true rfl) (lv0 := [(0, .ref (h_t 0))]) rfl ?_
  intro X O E
  unfold fX10_meanLeafDepth at hf
  refine r_ald_n O 1 rfl 0 rfl dX10_meanLeafDepth_0 ?_
  obtain ⟨p1_t, hq1, hf⟩ := qb1_some hf
  refine k_VV O 4 rfl (zX10_tree (l := xl X) (D := xD X) (cI := cI) (cZ := cZ) (cQ := cQ) (h_t := h_t) hq1) (gV mlX10_278 mvX10_tree izX10) rfl rfl rfl hdX10_tree ⟨Nat.le_of_ble_eq_true rfl, Nat.le_of_ble_eq_true rfl⟩ rfl 0 rfl rfl rfl rfl (Nat.le_of_ble_eq_true rfl) ⟨Nat.zero_le _, Nat.zero_le _⟩ [0] rfl rfl rfl ([nX10 cI cZ cQ h_t p1_t]) rfl dX10_meanLeafDepth_1 ?_
  refine r_ald_n O 5 rfl 0 rfl dX10_meanLeafDepth_4 ?_
  refine r_get (ref := RX10) (C := RX10) (T := TX10) (N := 70) O 8 rfl inBX10 0 47 rfl rfl rfl (by decide) flX10_254 rfl rfl dX10_meanLeafDepth_5 ?_
  refine r_i2d O 9 rfl dX10_meanLeafDepth_8 ?_
  refine r_ald_n O 10 rfl 0 rfl dX10_meanLeafDepth_9 ?_
  refine r_get (ref := RX10) (C := RX10) (T := TX10) (N := 70) O 13 rfl inBX10 0 46 rfl rfl rfl (by decide) flX10_248 rfl rfl dX10_meanLeafDepth_10 ?_
  refine r_i2d O 14 rfl dX10_meanLeafDepth_13 ?_
  obtain ⟨hnn14, hf⟩ := qnn_some hf
  refine r_ddiv O 15 rfl dX10_meanLeafDepth_14 hnn14 ?_
  obtain ⟨g0, g1⟩ := qe2 hf
  exact r_dret2 O E g0 (by rw [g1]) dX10_meanLeafDepth_15
-- X10_buildCount
def rmX10_buildCount : Room := { frames := 0, cells := 0, slots := 0, locals := 0 }
set_option maxHeartbeats 4000000 in
set_option maxRecDepth 100000 in
theorem zX10_buildCount {l : Launch} {D : va_G} {cI cZ cQ : ClassId} {h_t : Nat → Nat} {u_t : Pk} {r0 : Int32} (hf : fX10_buildCount u_t = some r0) : MI l yX10_buildCount wsX10_buildCount rmX10_buildCount D (TY cI cZ cQ) [.ref (h_t 0)] [nX10 cI cZ cQ h_t u_t] r0 [nX10 cI cZ cQ h_t u_t] := by
  refine MI.of (own := RX10) (by decide +kernel) rfl rfl (Nat.le_of_ble_eq_true rfl) (lv0 := [(0, .ref (h_t 0))]) rfl ?_
  intro X O E
  unfold fX10_buildCount at hf
  refine r_ald_n O 1 rfl 0 rfl dX10_buildCount_0 ?_
  refine r_get (ref := RX10) (C := RX10) (T := TX10) (N := 70) O 4 rfl inBX10 0 13 rfl rfl rfl (by decide) flX10_263 rfl rfl dX10_buildCount_1 ?_
  obtain g0 := qe1 hf
  exact r_iret2 O E g0 rfl dX10_buildCount_4
-- X10_isDrawn
def rmX10_isDrawn : Room := { frames := 2, cells := 0, slots := 0, locals := 45 }
set_option maxHeartbeats 4000000 in
set_option maxRecDepth 100000 in
theorem zX10_isDrawn {l : Launch} {D : va_G} {cI cZ cQ : ClassId} {h_t : Nat → Nat} {u_t : Pk} {a1 : Int32} {a2 : Int32} {a3 : Int32} {r0 : Int32} (hf : fX10_isDrawn u_t a1 a2 a3 = some r0) : MZ l yX10_isDrawn wsX10_isDrawn rmX10_isDrawn D (TY cI cZ cQ) [.ref (h_t 0), .int a1, .int a2, .int a3] [nX10 cI cZ cQ h_t u_t] r0 [nX10 cI cZ cQ h_t u_t] := by
  refine MZ.of (own := RX10) (by decide +kernel) rfl rfl (Nat.le_of_ble_eq_true rfl) (lv0 := [(0, .ref (h_t 0)), (1, .int a1), (2, .int a2), (3, .int a3)]) rfl ?_
  intro X O E
  unfold fX10_isDrawn at hf
  refine r_ald_n O 1 rfl 0 rfl dX10_isDrawn_0 ?_
  refine r_ild_n O 2 rfl 1 rfl dX10_isDrawn_1 ?_
  refine r_ild_n O 3 rfl 2 rfl dX10_isDrawn_2 ?_
  refine r_ild_n O 4 rfl 3 rfl dX10_isDrawn_3 ?_
  obtain ⟨x4, hq4, hf⟩ := qb1_some hf
  refine k_VI O 7 rfl (zX10_side (l := xl X) (D := xD X) (cI := cI) (cZ := cZ) (cQ := cQ) (h_t := h_t) hq4) (gV mlX10_183 mvX10_side izX10) rfl rfl rfl hdX10_side ⟨Nat.le_of_ble_eq_true rfl, Nat.le_of_ble_eq_true rfl⟩ rfl 0 rfl rfl rfl rfl (Nat.le_of_ble_eq_true rfl) ⟨Nat.zero_le _, Nat.zero_le _⟩ [0] rfl rfl rfl ([nX10 cI cZ cQ h_t u_t]) rfl dX10_isDrawn_4 ?_
  refine r_ist O 9 rfl [(4, .int x4), (0, .ref (h_t 0)), (1, .int a1), (2, .int a2), (3, .int a3)] dX10_isDrawn_7 (by decide) rfl ?_
  refine r_ald_n O 10 rfl 1 rfl dX10_isDrawn_9 ?_
  refine r_ild_n O 11 rfl 2 rfl dX10_isDrawn_10 ?_
  refine r_ic O 12 rfl 5 (by decide) dX10_isDrawn_11 ?_
  obtain ⟨x12, hq12, hf⟩ := qb1_some hf
  refine k_VI O 15 rfl (zX10_at (l := xl X) (D := xD X) (cI := cI) (cZ := cZ) (cQ := cQ) (h_t := h_t) hq12) (gV mlX10_129 mvX10_at izX10) rfl rfl rfl hdX10_at ⟨Nat.le_of_ble_eq_true rfl, Nat.le_of_ble_eq_true rfl⟩ rfl 0 rfl rfl rfl rfl (Nat.le_of_ble_eq_true rfl) ⟨Nat.zero_le _, Nat.zero_le _⟩ [0] rfl rfl rfl ([nX10 cI cZ cQ h_t u_t]) rfl dX10_isDrawn_12 ?_
  refine r_ic O 16 rfl 2 (by decide) dX10_isDrawn_15 ?_
  refine r_icmp_ne O 19 rfl 32 dX10_isDrawn_16 (by decide) (fun hc16 => ?_) (fun hc16 => ?_)
  · rw [if_neg hc16] at hf
    refine r_ild O 34 rfl 0 rfl dX10_isDrawn_32 ?_
    refine r_if_eq O 37 rfl 41 dX10_isDrawn_34 (by decide) (fun hc34 => ?_) (fun hc34 => ?_)
    · rw [if_pos hc34] at hf
      refine r_ic O 42 rfl 0 (by decide) dX10_isDrawn_41 ?_
      obtain g0 := qe1 hf
      exact r_zret2 O E g0 rfl rfl dX10_isDrawn_42
    · rw [if_neg hc34] at hf
      refine r_ic O 38 rfl 1 (by decide) dX10_isDrawn_37 ?_
      refine r_goto O 42 dX10_isDrawn_38 (by decide) ?_
      obtain g0 := qe1 hf
      exact r_zret2 O E g0 rfl rfl dX10_isDrawn_42
  · rw [if_pos hc16] at hf
    refine r_ild O 21 rfl 0 rfl dX10_isDrawn_19 ?_
    refine r_if_le O 24 rfl 28 dX10_isDrawn_21 (by decide) (fun hc21 => ?_) (fun hc21 => ?_)
    · rw [if_pos hc21] at hf
      refine r_ic O 29 rfl 0 (by decide) dX10_isDrawn_28 ?_
      refine r_goto O 42 dX10_isDrawn_29 (by decide) ?_
      obtain g0 := qe1 hf
      exact r_zret2 O E g0 rfl rfl dX10_isDrawn_42
    · rw [if_neg hc21] at hf
      refine r_ic O 25 rfl 1 (by decide) dX10_isDrawn_24 ?_
      refine r_goto O 42 dX10_isDrawn_25 (by decide) ?_
      obtain g0 := qe1 hf
      exact r_zret2 O E g0 rfl rfl dX10_isDrawn_42
-- X10_draw
def rmX10_draw : Room := { frames := 9, cells := 0, slots := 0, locals := 225 }
set_option maxHeartbeats 4000000 in
set_option maxRecDepth 100000 in
theorem zX10_draw {l : Launch} {D : va_G} {cI cZ cQ : ClassId} {h_t : Nat → Nat} {u_t : Pk} {a1 : Int32} {a2 : Int32} {v_t : Pk} (hf : fX10_draw u_t a1 a2 = some v_t) : MV l yX10_draw wsX10_draw rmX10_draw D (TY cI cZ cQ) [.ref (h_t 0), .int a1, .int a2] [nX10 cI cZ cQ h_t u_t] [nX10 cI cZ cQ h_t v_t] := by
  refine MV.of (own := RX10) (by decide +kernel) rfl rfl (Nat.le_of_ble_eq_true rfl) (lv0 := [(0, .ref (h_t 0)), (1, .int a1), (2, .int a2)]) rfl ?_
  intro X O E
  have B108 : ∀ (rec23 : Pk → Int32 → Int32 → Int32 → Option (Pk)), (∀ (w_t : Pk) (y1 : Int32) (y2 : Int32) (y3 : Int32), rec23 w_t y1 y2 y3 = some v_t → BK X 7 0 0 23 ([nX10 cI cZ cQ h_t w_t]) [(0, .ref (h_t 0)), (1, .int y1), (2, .int y2), (3, .int y3)] []) → ∀ (rec66 : Pk → Int32 → Int32 → Int32 → Int32 → Option (Pk)), (∀ (w_t : Pk) (y1 : Int32) (y2 : Int32) (y3 : Int32) (y6 : Int32), rec66 w_t y1 y2 y3 y6 = some v_t → BK X 7 0 0 66 ([nX10 cI cZ cQ h_t w_t]) [(0, .ref (h_t 0)), (1, .int y1), (2, .int y2), (3, .int y3), (6, .int y6)] []) → ∀ (w_t : Pk) (y1 : Int32) (y2 : Int32) (y3 : Int32) (y6 : Int32), fX10_draw_b108 rec23 rec66 w_t y1 y2 y3 y6 = some v_t → BK X 7 0 0 108 ([nX10 cI cZ cQ h_t w_t]) [(0, .ref (h_t 0)), (1, .int y1), (2, .int y2), (3, .int y3), (6, .int y6)] [] := by
    intro rec23 hrec23 rec66 hrec66 w_t y1 y2 y3 y6 hf
    unfold fX10_draw_b108 at hf
    refine r_ald_n O 109 rfl 0 rfl dX10_draw_108 ?_
    refine r_get (ref := RX10) (C := RX10) (T := TX10) (N := 70) O 112 rfl inBX10 0 30 rfl rfl rfl (by decide) flX10_71 rfl rfl dX10_draw_109 ?_
    refine r_ild O 114 rfl 4 rfl dX10_draw_112 ?_
    obtain ⟨x114, ex114, hin114, hf⟩ := qld_some hf
    refine r_iald O 115 rfl 0 14 rfl rfl hin114 dX10_draw_114 ?_
    rw [← ex114]
    refine r_ist O 117 rfl [(6, .int x114), (0, .ref (h_t 0)), (1, .int y1), (2, .int y2), (3, .int y3)] dX10_draw_115 (by decide) rfl ?_
    refine r_goto O 66 dX10_draw_117 (by decide) ?_
    refine r_lv [1, 2, 3, 4, 0] rfl ?_
    exact hrec66 _ _ _ _ _ hf
  have B230 : ∀ (rec23 : Pk → Int32 → Int32 → Int32 → Option (Pk)), (∀ (w_t : Pk) (y1 : Int32) (y2 : Int32) (y3 : Int32), rec23 w_t y1 y2 y3 = some v_t → BK X 7 0 0 23 ([nX10 cI cZ cQ h_t w_t]) [(0, .ref (h_t 0)), (1, .int y1), (2, .int y2), (3, .int y3)] []) → ∀ (w_t : Pk) (y1 : Int32) (y2 : Int32) (y3 : Int32), fX10_draw_b230 rec23 w_t y1 y2 y3 = some v_t → BK X 7 0 0 230 ([nX10 cI cZ cQ h_t w_t]) [(0, .ref (h_t 0)), (1, .int y1), (2, .int y2), (3, .int y3)] [] := by
    intro rec23 hrec23 w_t y1 y2 y3 hf
    unfold fX10_draw_b230 at hf
    refine r_goto O 23 dX10_draw_230 (by decide) ?_
    exact hrec23 _ _ _ _ hf
  have B66 : ∀ (rec23 : Pk → Int32 → Int32 → Int32 → Option (Pk)), (∀ (w_t : Pk) (y1 : Int32) (y2 : Int32) (y3 : Int32), rec23 w_t y1 y2 y3 = some v_t → BK X 7 0 0 23 ([nX10 cI cZ cQ h_t w_t]) [(0, .ref (h_t 0)), (1, .int y1), (2, .int y2), (3, .int y3)] []) → ∀ n : Nat, ∀ (w_t : Pk) (y1 : Int32) (y2 : Int32) (y3 : Int32) (y6 : Int32), fX10_draw_b66 rec23 n w_t y1 y2 y3 y6 = some v_t → BK X 7 0 0 66 ([nX10 cI cZ cQ h_t w_t]) [(0, .ref (h_t 0)), (1, .int y1), (2, .int y2), (3, .int y3), (6, .int y6)] [] := by
    intro rec23 hrec23
    intro n
    induction n with
    | zero => exact fun _ _ _ _ _ hf => qno hf
    | succ n hrec66 =>
      intro w_t y1 y2 y3 y6 hf
      have hf : fX10_draw_b66_s rec23 (fX10_draw_b66 rec23 n) w_t y1 y2 y3 y6 = some v_t := hf
      generalize fX10_draw_b66 rec23 n = rec66 at hf hrec66
      unfold fX10_draw_b66_s at hf
      refine r_ild O 68 rfl 4 rfl dX10_draw_66 ?_
      refine r_if_lt O 71 rfl 120 dX10_draw_68 (by decide) (fun hc68 => ?_) (fun hc68 => ?_)
      · rw [if_pos hc68] at hf
        refine r_goto O 230 dX10_draw_120 (by decide) ?_
        refine r_lv [0, 1, 2, 3] rfl ?_
        exact B230 rec23 hrec23 _ _ _ _ hf
      · rw [if_neg hc68] at hf
        refine r_ald_n O 72 rfl 0 rfl dX10_draw_71 ?_
        refine r_ald_n O 73 rfl 0 rfl dX10_draw_72 ?_
        refine r_get (ref := RX10) (C := RX10) (T := TX10) (N := 70) O 76 rfl inBX10 0 27 rfl rfl rfl (by decide) flX10_62 rfl rfl dX10_draw_73 ?_
        refine r_ild O 78 rfl 4 rfl dX10_draw_76 ?_
        obtain ⟨x78, ex78, hin78, hf⟩ := qld_some hf
        refine r_iald O 79 rfl 0 11 rfl rfl hin78 dX10_draw_78 ?_
        rw [← ex78]
        refine r_ild_n O 80 rfl 1 rfl dX10_draw_79 ?_
        refine r_ild_n O 81 rfl 2 rfl dX10_draw_80 ?_
        obtain ⟨x81, hq81, hf⟩ := qb1_some hf
        refine k_VZ O 84 rfl (zX10_isDrawn (l := xl X) (D := xD X) (cI := cI) (cZ := cZ) (cQ := cQ) (h_t := h_t) hq81) (gV mlX10_304 mvX10_isDrawn izX10) rfl rfl rfl hdX10_isDrawn ⟨Nat.le_of_ble_eq_true rfl, Nat.le_of_ble_eq_true rfl⟩ rfl 0 rfl rfl rfl rfl (Nat.le_of_ble_eq_true rfl) ⟨Nat.zero_le _, Nat.zero_le _⟩ [0] rfl rfl rfl ([nX10 cI cZ cQ h_t w_t]) rfl dX10_draw_81 (fun hz81 => ?_)
        refine r_if_eq O 87 rfl 108 dX10_draw_84 (by decide) (fun hc84 => ?_) (fun hc84 => ?_)
        · rw [if_pos hc84] at hf
          exact B108 rec23 hrec23 rec66 hrec66 _ _ _ _ _ hf
        · rw [if_neg hc84] at hf
          refine r_ald_n O 88 rfl 0 rfl dX10_draw_87 ?_
          refine r_get (ref := RX10) (C := RX10) (T := TX10) (N := 70) O 91 rfl inBX10 0 49 rfl rfl rfl (by decide) flX10_110 rfl rfl dX10_draw_88 ?_
          refine r_ald_n O 92 rfl 0 rfl dX10_draw_91 ?_
          refine r_get (ref := RX10) (C := RX10) (T := TX10) (N := 70) O 95 rfl inBX10 0 50 rfl rfl rfl (by decide) flX10_301 rfl rfl dX10_draw_92 ?_
          refine r_ild O 97 rfl 4 rfl dX10_draw_95 ?_
          obtain ⟨hin97, hf⟩ := qst_some hf
          obtain ⟨p97_t, ep97_t, hf⟩ := qn_some hf
          refine r_iast O 98 rfl 0 27 rfl rfl hin97 ([nX10 cI cZ cQ h_t p97_t]) (by rw [ep97_t]; rfl) dX10_draw_97 ?_
          refine r_ald_n O 99 rfl 0 rfl dX10_draw_98 ?_
          refine r_dup O 100 rfl dX10_draw_99 rfl ?_
          refine r_get (ref := RX10) (C := RX10) (T := TX10) (N := 70) O 103 rfl inBX10 0 50 rfl rfl rfl (by decide) flX10_301 rfl rfl dX10_draw_100 ?_
          refine r_ic O 104 rfl 1 (by decide) dX10_draw_103 ?_
          refine r_iadd O 105 rfl dX10_draw_104 ?_
          obtain ⟨p105_t, ep105_t, hf⟩ := qn_some hf
          refine r_put (ref := RX10) (C := RX10) (T := TX10) (N := 70) O 108 rfl inBX10 tyX10 tyX10_ok nmX10 0 50 rfl rfl rfl (by decide) flX10_301 rfl rfl rfl rfl (Nat.le_of_ble_eq_true rfl) ([nX10 cI cZ cQ h_t p105_t]) (by rw [ep105_t]; rfl) dX10_draw_105 ?_
          exact B108 rec23 hrec23 rec66 hrec66 _ _ _ _ _ hf
  have B225 : ∀ (rec23 : Pk → Int32 → Int32 → Int32 → Option (Pk)), (∀ (w_t : Pk) (y1 : Int32) (y2 : Int32) (y3 : Int32), rec23 w_t y1 y2 y3 = some v_t → BK X 7 0 0 23 ([nX10 cI cZ cQ h_t w_t]) [(0, .ref (h_t 0)), (1, .int y1), (2, .int y2), (3, .int y3)] []) → ∀ (w_t : Pk) (y1 : Int32) (y2 : Int32) (y3 : Int32) (z1 : Int32) (z2 : Int32) (z3 : Int32), fX10_draw_b225 rec23 w_t y1 y2 y3 z1 z2 z3 = some v_t → BK X 7 0 0 225 ([nX10 cI cZ cQ h_t w_t]) [(0, .ref (h_t 0)), (1, .int y1), (2, .int y2), (3, .int y3)] [.int z3, .int z2, .int z1, .ref (h_t 44)] := by
    intro rec23 hrec23 w_t y1 y2 y3 z1 z2 z3 hf
    unfold fX10_draw_b225 at hf
    refine r_imul O 226 rfl dX10_draw_225 ?_
    obtain ⟨hin226, hf⟩ := qst_some hf
    obtain ⟨p226_t, ep226_t, hf⟩ := qn_some hf
    refine r_iast O 227 rfl 0 25 rfl rfl hin226 ([nX10 cI cZ cQ h_t p226_t]) (by rw [ep226_t]; rfl) dX10_draw_226 ?_
    obtain ⟨x227, ex227, hf⟩ := qn_some hf
    refine r_iinc O 230 rfl x227 3 rfl (by rw [ex227]; rfl) [(3, .int x227), (0, .ref (h_t 0)), (1, .int y1), (2, .int y2)] dX10_draw_227 (by decide) rfl ?_
    refine r_lv [1, 2, 3, 0] rfl ?_
    exact B230 rec23 hrec23 _ _ _ _ hf
  have B179 : ∀ (rec23 : Pk → Int32 → Int32 → Int32 → Option (Pk)), (∀ (w_t : Pk) (y1 : Int32) (y2 : Int32) (y3 : Int32), rec23 w_t y1 y2 y3 = some v_t → BK X 7 0 0 23 ([nX10 cI cZ cQ h_t w_t]) [(0, .ref (h_t 0)), (1, .int y1), (2, .int y2), (3, .int y3)] []) → ∀ (w_t : Pk) (y1 : Int32) (y2 : Int32) (y3 : Int32) (y5 : Int32) (y6 : Int32) (z1 : Int32) (z2 : Int32) (z3 : Int32), fX10_draw_b179 rec23 w_t y1 y2 y3 y5 y6 z1 z2 z3 = some v_t → BK X 7 0 0 179 ([nX10 cI cZ cQ h_t w_t]) [(0, .ref (h_t 0)), (1, .int y1), (2, .int y2), (3, .int y3), (5, .int y5), (6, .int y6)] [.int z3, .int z2, .int z1, .ref (h_t 44)] := by
    intro rec23 hrec23 w_t y1 y2 y3 y5 y6 z1 z2 z3 hf
    unfold fX10_draw_b179 at hf
    refine r_imul O 180 rfl dX10_draw_179 ?_
    obtain ⟨hin180, hf⟩ := qst_some hf
    obtain ⟨p180_t, ep180_t, hf⟩ := qn_some hf
    refine r_iast O 181 rfl 0 25 rfl rfl hin180 ([nX10 cI cZ cQ h_t p180_t]) (by rw [ep180_t]; rfl) dX10_draw_180 ?_
    refine r_ald_n O 182 rfl 0 rfl dX10_draw_181 ?_
    refine r_get (ref := RX10) (C := RX10) (T := TX10) (N := 70) O 185 rfl inBX10 0 43 rfl rfl rfl (by decide) flX10_104 rfl rfl dX10_draw_182 ?_
    refine r_ild_n O 186 rfl 3 rfl dX10_draw_185 ?_
    refine r_ic O 187 rfl 1 (by decide) dX10_draw_186 ?_
    refine r_iadd O 188 rfl dX10_draw_187 ?_
    refine r_ic O 189 rfl 2 (by decide) dX10_draw_188 ?_
    refine r_ild O 191 rfl 4 rfl dX10_draw_189 ?_
    refine r_imul O 192 rfl dX10_draw_191 ?_
    refine r_ic O 193 rfl 1 (by decide) dX10_draw_192 ?_
    refine r_iadd O 194 rfl dX10_draw_193 ?_
    obtain ⟨hin194, hf⟩ := qst_some hf
    obtain ⟨p194_t, ep194_t, hf⟩ := qn_some hf
    refine r_iast O 195 rfl 0 25 rfl rfl hin194 ([nX10 cI cZ cQ h_t p194_t]) (by rw [ep194_t]; rfl) dX10_draw_194 ?_
    refine r_ald_n O 196 rfl 0 rfl dX10_draw_195 ?_
    refine r_get (ref := RX10) (C := RX10) (T := TX10) (N := 70) O 199 rfl inBX10 0 43 rfl rfl rfl (by decide) flX10_104 rfl rfl dX10_draw_196 ?_
    refine r_ild_n O 200 rfl 3 rfl dX10_draw_199 ?_
    refine r_ic O 201 rfl 2 (by decide) dX10_draw_200 ?_
    refine r_iadd O 202 rfl dX10_draw_201 ?_
    refine r_ic O 203 rfl 2 (by decide) dX10_draw_202 ?_
    refine r_ild O 205 rfl 5 rfl dX10_draw_203 ?_
    refine r_if_eq O 208 rfl 218 dX10_draw_205 (by decide) (fun hc205 => ?_) (fun hc205 => ?_)
    · rw [if_pos hc205] at hf
      refine r_ald_n O 219 rfl 0 rfl dX10_draw_218 ?_
      refine r_get (ref := RX10) (C := RX10) (T := TX10) (N := 70) O 222 rfl inBX10 0 21 rfl rfl rfl (by decide) flX10_50 rfl rfl dX10_draw_219 ?_
      refine r_ild O 224 rfl 4 rfl dX10_draw_222 ?_
      obtain ⟨x224, ex224, hin224, hf⟩ := qld_some hf
      refine r_iald O 225 rfl 0 7 rfl rfl hin224 dX10_draw_224 ?_
      rw [← ex224]
      refine r_lv [0, 1, 2, 3] rfl ?_
      exact B225 rec23 hrec23 _ _ _ _ _ _ _ hf
    · rw [if_neg hc205] at hf
      refine r_ald_n O 209 rfl 0 rfl dX10_draw_208 ?_
      refine r_get (ref := RX10) (C := RX10) (T := TX10) (N := 70) O 212 rfl inBX10 0 22 rfl rfl rfl (by decide) flX10_53 rfl rfl dX10_draw_209 ?_
      refine r_ild O 214 rfl 4 rfl dX10_draw_212 ?_
      obtain ⟨x214, ex214, hin214, hf⟩ := qld_some hf
      refine r_iald O 215 rfl 0 8 rfl rfl hin214 dX10_draw_214 ?_
      rw [← ex214]
      refine r_goto O 225 dX10_draw_215 (by decide) ?_
      refine r_lv [0, 1, 2, 3] rfl ?_
      exact B225 rec23 hrec23 _ _ _ _ _ _ _ hf
  have B149 : ∀ (rec23 : Pk → Int32 → Int32 → Int32 → Option (Pk)), (∀ (w_t : Pk) (y1 : Int32) (y2 : Int32) (y3 : Int32), rec23 w_t y1 y2 y3 = some v_t → BK X 7 0 0 23 ([nX10 cI cZ cQ h_t w_t]) [(0, .ref (h_t 0)), (1, .int y1), (2, .int y2), (3, .int y3)] []) → ∀ (w_t : Pk) (y1 : Int32) (y2 : Int32) (y3 : Int32) (y5 : Int32) (z0 : Int32), fX10_draw_b149 rec23 w_t y1 y2 y3 y5 z0 = some v_t → BK X 7 0 0 149 ([nX10 cI cZ cQ h_t w_t]) [(0, .ref (h_t 0)), (1, .int y1), (2, .int y2), (3, .int y3), (5, .int y5)] [.int z0] := by
    intro rec23 hrec23 w_t y1 y2 y3 y5 z0 hf
    unfold fX10_draw_b149 at hf
    refine r_ist O 151 rfl [(6, .int z0), (0, .ref (h_t 0)), (1, .int y1), (2, .int y2), (3, .int y3), (5, .int y5)] dX10_draw_149 (by decide) rfl ?_
    refine r_ald_n O 152 rfl 1 rfl dX10_draw_151 ?_
    refine r_get (ref := RX10) (C := RX10) (T := TX10) (N := 70) O 155 rfl inBX10 0 43 rfl rfl rfl (by decide) flX10_104 rfl rfl dX10_draw_152 ?_
    refine r_ild_n O 156 rfl 4 rfl dX10_draw_155 ?_
    refine r_ic O 157 rfl 2 (by decide) dX10_draw_156 ?_
    refine r_ild O 159 rfl 0 rfl dX10_draw_157 ?_
    refine r_if_eq O 162 rfl 172 dX10_draw_159 (by decide) (fun hc159 => ?_) (fun hc159 => ?_)
    · rw [if_pos hc159] at hf
      refine r_ald_n O 173 rfl 1 rfl dX10_draw_172 ?_
      refine r_get (ref := RX10) (C := RX10) (T := TX10) (N := 70) O 176 rfl inBX10 0 22 rfl rfl rfl (by decide) flX10_53 rfl rfl dX10_draw_173 ?_
      refine r_ild O 178 rfl 5 rfl dX10_draw_176 ?_
      obtain ⟨x178, ex178, hin178, hf⟩ := qld_some hf
      refine r_iald O 179 rfl 0 8 rfl rfl hin178 dX10_draw_178 ?_
      rw [← ex178]
      refine r_lv [1, 2, 3, 4, 5, 0] rfl ?_
      exact B179 rec23 hrec23 _ _ _ _ _ _ _ _ _ hf
    · rw [if_neg hc159] at hf
      refine r_ald_n O 163 rfl 1 rfl dX10_draw_162 ?_
      refine r_get (ref := RX10) (C := RX10) (T := TX10) (N := 70) O 166 rfl inBX10 0 21 rfl rfl rfl (by decide) flX10_50 rfl rfl dX10_draw_163 ?_
      refine r_ild O 168 rfl 5 rfl dX10_draw_166 ?_
      obtain ⟨x168, ex168, hin168, hf⟩ := qld_some hf
      refine r_iald O 169 rfl 0 7 rfl rfl hin168 dX10_draw_168 ?_
      rw [← ex168]
      refine r_goto O 179 dX10_draw_169 (by decide) ?_
      refine r_lv [1, 2, 3, 4, 5, 0] rfl ?_
      exact B179 rec23 hrec23 _ _ _ _ _ _ _ _ _ hf
  have B123 : ∀ (rec23 : Pk → Int32 → Int32 → Int32 → Option (Pk)), (∀ (w_t : Pk) (y1 : Int32) (y2 : Int32) (y3 : Int32), rec23 w_t y1 y2 y3 = some v_t → BK X 7 0 0 23 ([nX10 cI cZ cQ h_t w_t]) [(0, .ref (h_t 0)), (1, .int y1), (2, .int y2), (3, .int y3)] []) → ∀ (w_t : Pk) (y1 : Int32) (y2 : Int32) (y3 : Int32) (y5 : Int32), fX10_draw_b123 rec23 w_t y1 y2 y3 y5 = some v_t → BK X 7 0 0 123 ([nX10 cI cZ cQ h_t w_t]) [(0, .ref (h_t 0)), (1, .int y1), (2, .int y2), (3, .int y3), (5, .int y5)] [] := by
    intro rec23 hrec23 w_t y1 y2 y3 y5 hf
    unfold fX10_draw_b123 at hf
    refine r_ild O 125 rfl 4 rfl dX10_draw_123 ?_
    refine r_if_lt O 128 rfl 230 dX10_draw_125 (by decide) (fun hc125 => ?_) (fun hc125 => ?_)
    · rw [if_pos hc125] at hf
      refine r_lv [0, 1, 2, 3] rfl ?_
      exact B230 rec23 hrec23 _ _ _ _ hf
    · rw [if_neg hc125] at hf
      refine r_ald_n O 129 rfl 0 rfl dX10_draw_128 ?_
      refine r_ald_n O 130 rfl 0 rfl dX10_draw_129 ?_
      refine r_get (ref := RX10) (C := RX10) (T := TX10) (N := 70) O 133 rfl inBX10 0 20 rfl rfl rfl (by decide) flX10_47 rfl rfl dX10_draw_130 ?_
      refine r_ild O 135 rfl 4 rfl dX10_draw_133 ?_
      obtain ⟨x135, ex135, hin135, hf⟩ := qld_some hf
      refine r_iald O 136 rfl 0 6 rfl rfl hin135 dX10_draw_135 ?_
      rw [← ex135]
      refine r_ild_n O 137 rfl 1 rfl dX10_draw_136 ?_
      refine r_ild_n O 138 rfl 2 rfl dX10_draw_137 ?_
      obtain ⟨x138, hq138, hf⟩ := qb1_some hf
      refine k_VI O 141 rfl (zX10_side (l := xl X) (D := xD X) (cI := cI) (cZ := cZ) (cQ := cQ) (h_t := h_t) hq138) (gV mlX10_183 mvX10_side izX10) rfl rfl rfl hdX10_side ⟨Nat.le_of_ble_eq_true rfl, Nat.le_of_ble_eq_true rfl⟩ rfl 0 rfl rfl rfl rfl (Nat.le_of_ble_eq_true rfl) ⟨Nat.zero_le _, Nat.zero_le _⟩ [0] rfl rfl rfl ([nX10 cI cZ cQ h_t w_t]) rfl dX10_draw_138 ?_
      refine r_if_lt O 144 rfl 148 dX10_draw_141 (by decide) (fun hc141 => ?_) (fun hc141 => ?_)
      · rw [if_pos hc141] at hf
        refine r_ic O 149 rfl 0 (by decide) dX10_draw_148 ?_
        exact B149 rec23 hrec23 _ _ _ _ _ _ hf
      · rw [if_neg hc141] at hf
        refine r_ic O 145 rfl 1 (by decide) dX10_draw_144 ?_
        refine r_goto O 149 dX10_draw_145 (by decide) ?_
        exact B149 rec23 hrec23 _ _ _ _ _ _ hf
  have B23 : ∀ n : Nat, ∀ (w_t : Pk) (y1 : Int32) (y2 : Int32) (y3 : Int32), fX10_draw_b23 n w_t y1 y2 y3 = some v_t → BK X 7 0 0 23 ([nX10 cI cZ cQ h_t w_t]) [(0, .ref (h_t 0)), (1, .int y1), (2, .int y2), (3, .int y3)] [] := by
    intro n
    induction n with
    | zero => exact fun _ _ _ _ hf => qno hf
    | succ n hrec23 =>
      intro w_t y1 y2 y3 hf
      have hf : fX10_draw_b23_s (fX10_draw_b23 n) w_t y1 y2 y3 = some v_t := hf
      generalize fX10_draw_b23 n = rec23 at hf hrec23
      unfold fX10_draw_b23_s at hf
      refine r_ild_n O 24 rfl 3 rfl dX10_draw_23 ?_
      refine r_if_le O 27 rfl 233 dX10_draw_24 (by decide) (fun hc24 => ?_) (fun hc24 => ?_)
      · rw [if_pos hc24] at hf
        obtain g0 := qe1 hf
        exact r_vret2 O E (by rw [g0]) dX10_draw_233
      · rw [if_neg hc24] at hf
        obtain ⟨x27, ex27, hf⟩ := qn_some hf
        refine r_iinc O 30 rfl x27 3 rfl (by rw [ex27]; rfl) [(3, .int x27), (0, .ref (h_t 0)), (1, .int y1), (2, .int y2)] dX10_draw_27 (by decide) rfl ?_
        refine r_ald_n O 31 rfl 1 rfl dX10_draw_30 ?_
        refine r_get (ref := RX10) (C := RX10) (T := TX10) (N := 70) O 34 rfl inBX10 0 43 rfl rfl rfl (by decide) flX10_104 rfl rfl dX10_draw_31 ?_
        refine r_ild_n O 35 rfl 0 rfl dX10_draw_34 ?_
        obtain ⟨x35, ex35, hin35, hf⟩ := qld_some hf
        refine r_iald O 36 rfl 0 25 rfl rfl hin35 dX10_draw_35 ?_
        rw [← ex35]
        refine r_ist O 38 rfl [(4, .int x35), (3, .int x27), (0, .ref (h_t 0)), (1, .int y1), (2, .int y2)] dX10_draw_36 (by decide) rfl ?_
        refine r_ild O 40 rfl 0 rfl dX10_draw_38 ?_
        refine r_ic O 41 rfl 1 (by decide) dX10_draw_40 ?_
        refine r_ishr O 42 rfl dX10_draw_41 ?_
        obtain ⟨x42, ex42, hf⟩ := qn_some hf
        rw [← ex42]
        refine r_ist O 44 rfl [(5, .int x42), (4, .int x35), (3, .int x27), (0, .ref (h_t 0)), (1, .int y1), (2, .int y2)] dX10_draw_42 (by decide) rfl ?_
        refine r_ild O 46 rfl 0 rfl dX10_draw_44 ?_
        refine r_if_lt O 49 rfl 123 dX10_draw_46 (by decide) (fun hc46 => ?_) (fun hc46 => ?_)
        · rw [if_pos hc46] at hf
          refine r_lv [3, 4, 5, 2, 0] rfl ?_
          exact B123 rec23 hrec23 _ _ _ _ _ hf
        · rw [if_neg hc46] at hf
          refine r_ild O 51 rfl 1 rfl dX10_draw_49 ?_
          refine r_ic O 52 rfl 1 (by decide) dX10_draw_51 ?_
          refine r_iand O 53 rfl dX10_draw_52 ?_
          refine r_ic O 54 rfl 1 (by decide) dX10_draw_53 ?_
          refine r_icmp_ne O 57 rfl 123 dX10_draw_54 (by decide) (fun hc54 => ?_) (fun hc54 => ?_)
          · rw [if_neg hc54] at hf
            refine r_lv [3, 4, 5, 2, 0] rfl ?_
            exact B123 rec23 hrec23 _ _ _ _ _ hf
          · rw [if_pos hc54] at hf
            refine r_ald_n O 58 rfl 3 rfl dX10_draw_57 ?_
            refine r_get (ref := RX10) (C := RX10) (T := TX10) (N := 70) O 61 rfl inBX10 0 23 rfl rfl rfl (by decide) flX10_56 rfl rfl dX10_draw_58 ?_
            refine r_ild O 63 rfl 0 rfl dX10_draw_61 ?_
            obtain ⟨x63, ex63, hin63, hf⟩ := qld_some hf
            refine r_iald O 64 rfl 0 9 rfl rfl hin63 dX10_draw_63 ?_
            rw [← ex63]
            refine r_ist O 66 rfl [(6, .int x63), (5, .int x42), (4, .int x35), (3, .int x27), (0, .ref (h_t 0)), (1, .int y1), (2, .int y2)] dX10_draw_64 (by decide) rfl ?_
            refine r_lv [4, 5, 6, 3, 0] rfl ?_
            exact B66 rec23 hrec23 FU _ _ _ _ _ hf
  unfold fX10_draw at hf
  refine r_ald_n O 1 rfl 0 rfl dX10_draw_0 ?_
  obtain ⟨p1_t, hq1, hf⟩ := qb1_some hf
  refine k_VV O 4 rfl (zX10_tree (l := xl X) (D := xD X) (cI := cI) (cZ := cZ) (cQ := cQ) (h_t := h_t) hq1) (gV mlX10_278 mvX10_tree izX10) rfl rfl rfl hdX10_tree ⟨Nat.le_of_ble_eq_true rfl, Nat.le_of_ble_eq_true rfl⟩ rfl 0 rfl rfl rfl rfl (Nat.le_of_ble_eq_true rfl) ⟨Nat.zero_le _, Nat.zero_le _⟩ [0] rfl rfl rfl ([nX10 cI cZ cQ h_t p1_t]) rfl dX10_draw_1 ?_
  refine r_ald_n O 5 rfl 0 rfl dX10_draw_4 ?_
  refine r_ic O 6 rfl 0 (by decide) dX10_draw_5 ?_
  obtain ⟨p6_t, ep6_t, hf⟩ := qn_some hf
  refine r_put (ref := RX10) (C := RX10) (T := TX10) (N := 70) O 9 rfl inBX10 tyX10 tyX10_ok nmX10 0 50 rfl rfl rfl (by decide) flX10_301 rfl rfl rfl rfl (Nat.le_of_ble_eq_true rfl) ([nX10 cI cZ cQ h_t p6_t]) (by rw [ep6_t]; rfl) dX10_draw_6 ?_
  refine r_ic O 10 rfl 1 (by decide) dX10_draw_9 ?_
  refine r_ist_n O 11 rfl rfl [(3, .int 1), (0, .ref (h_t 0)), (1, .int a1), (2, .int a2)] dX10_draw_10 (by decide) rfl ?_
  refine r_ald_n O 12 rfl 1 rfl dX10_draw_11 ?_
  refine r_get (ref := RX10) (C := RX10) (T := TX10) (N := 70) O 15 rfl inBX10 0 43 rfl rfl rfl (by decide) flX10_104 rfl rfl dX10_draw_12 ?_
  refine r_ic O 16 rfl 0 (by decide) dX10_draw_15 ?_
  refine r_ic O 17 rfl 2 (by decide) dX10_draw_16 ?_
  refine r_ald_n O 18 rfl 1 rfl dX10_draw_17 ?_
  refine r_get (ref := RX10) (C := RX10) (T := TX10) (N := 70) O 21 rfl inBX10 0 26 rfl rfl rfl (by decide) flX10_212 rfl rfl dX10_draw_18 ?_
  refine r_imul O 22 rfl dX10_draw_21 ?_
  obtain ⟨hin22, hf⟩ := qst_some hf
  obtain ⟨p22_t, ep22_t, hf⟩ := qn_some hf
  refine r_iast O 23 rfl 0 25 rfl rfl hin22 ([nX10 cI cZ cQ h_t p22_t]) (by rw [ep22_t]; rfl) dX10_draw_22 ?_
  refine r_lv [1, 2, 3, 0] rfl ?_
  exact B23 FU _ _ _ _ hf
-- X10_drawCount
def rmX10_drawCount : Room := { frames := 10, cells := 0, slots := 0, locals := 251 }
set_option maxHeartbeats 4000000 in
set_option maxRecDepth 100000 in
theorem zX10_drawCount {l : Launch} {D : va_G} {cI cZ cQ : ClassId} {h_t : Nat → Nat} {u_t : Pk} {a1 : Int32} {a2 : Int32} {r0 : Int32} {v_t : Pk} (hf : fX10_drawCount u_t a1 a2 = some (r0, v_t)) : MI l yX10_drawCount wsX10_drawCount rmX10_drawCount D (TY cI cZ cQ) [.ref (h_t 0), .int a1, .int a2] [nX10 cI cZ cQ h_t u_t] r0 [nX10 cI cZ cQ h_t v_t] := by
  refine MI.of (own := RX10) (by decide +kernel) rfl rfl (Nat.le_of_ble_eq_true rfl) (lv0 := [(0, .ref (h_t 0)), (1, .int a1), (2, .int a2)]) rfl ?_
  intro X O E
  unfold fX10_drawCount at hf
  refine r_ild_n O 1 rfl 1 rfl dX10_drawCount_0 ?_
  refine r_ild_n O 2 rfl 2 rfl dX10_drawCount_1 ?_
  obtain ⟨x2, hq2, hf⟩ := qb1_some hf
  refine k_SZ O 5 rfl (zX10_isPoint (l := xl X) (D := xD X) (cI := cI) (cZ := cZ) (cQ := cQ) hq2) (gS mlX10_297 mvX10_isPoint izX10) rfl rfl rfl hdX10_isPoint ⟨Nat.le_of_ble_eq_true rfl, Nat.le_of_ble_eq_true rfl⟩ rfl rfl (Nat.le_of_ble_eq_true rfl) ⟨Nat.zero_le _, Nat.zero_le _⟩ [] rfl rfl rfl ([nX10 cI cZ cQ h_t u_t]) rfl dX10_drawCount_2 (fun hz2 => ?_)
  refine r_if_ne O 8 rfl 11 dX10_drawCount_5 (by decide) (fun hc5 => ?_) (fun hc5 => ?_)
  · rw [if_neg hc5] at hf
    refine r_ald_n O 12 rfl 0 rfl dX10_drawCount_11 ?_
    refine r_ild_n O 13 rfl 1 rfl dX10_drawCount_12 ?_
    refine r_ild_n O 14 rfl 2 rfl dX10_drawCount_13 ?_
    obtain ⟨p14_t, hq14, hf⟩ := qb1_some hf
    refine k_VV O 17 rfl (zX10_draw (l := xl X) (D := xD X) (cI := cI) (cZ := cZ) (cQ := cQ) (h_t := h_t) hq14) (gV mlX10_308 mvX10_draw izX10) rfl rfl rfl hdX10_draw ⟨Nat.le_of_ble_eq_true rfl, Nat.le_of_ble_eq_true rfl⟩ rfl 0 rfl rfl rfl rfl (Nat.le_of_ble_eq_true rfl) ⟨Nat.zero_le _, Nat.zero_le _⟩ [0] rfl rfl rfl ([nX10 cI cZ cQ h_t p14_t]) rfl dX10_drawCount_14 ?_
    refine r_ald_n O 18 rfl 0 rfl dX10_drawCount_17 ?_
    refine r_get (ref := RX10) (C := RX10) (T := TX10) (N := 70) O 21 rfl inBX10 0 50 rfl rfl rfl (by decide) flX10_301 rfl rfl dX10_drawCount_18 ?_
    obtain ⟨g0, g1⟩ := qe2 hf
    exact r_iret2 O E g0 (by rw [g1]) dX10_drawCount_21
  · rw [if_pos hc5] at hf
    refine r_bi O 10 rfl (-2) (by decide) dX10_drawCount_8 ?_
    obtain ⟨g0, g1⟩ := qe2 hf
    exact r_iret2 O E g0 (by rw [g1]) dX10_drawCount_10
-- X10_drawPiece
def rmX10_drawPiece : Room := { frames := 10, cells := 0, slots := 0, locals := 251 }
set_option maxHeartbeats 4000000 in
set_option maxRecDepth 100000 in
theorem zX10_drawPiece {l : Launch} {D : va_G} {cI cZ cQ : ClassId} {h_t : Nat → Nat} {u_t : Pk} {a1 : Int32} {a2 : Int32} {a3 : Int32} {r0 : Int32} {v_t : Pk} (hf : fX10_drawPiece u_t a1 a2 a3 = some (r0, v_t)) : MI l yX10_drawPiece wsX10_drawPiece rmX10_drawPiece D (TY cI cZ cQ) [.ref (h_t 0), .int a1, .int a2, .int a3] [nX10 cI cZ cQ h_t u_t] r0 [nX10 cI cZ cQ h_t v_t] := by
  refine MI.of (own := RX10) (by decide +kernel) rfl rfl (Nat.le_of_ble_eq_true rfl) (lv0 := [(0, .ref (h_t 0)), (1, .int a1), (2, .int a2), (3, .int a3)]) rfl ?_
  intro X O E
  unfold fX10_drawPiece at hf
  refine r_ild_n O 1 rfl 1 rfl dX10_drawPiece_0 ?_
  refine r_ild_n O 2 rfl 2 rfl dX10_drawPiece_1 ?_
  obtain ⟨x2, hq2, hf⟩ := qb1_some hf
  refine k_SZ O 5 rfl (zX10_isPoint (l := xl X) (D := xD X) (cI := cI) (cZ := cZ) (cQ := cQ) hq2) (gS mlX10_297 mvX10_isPoint izX10) rfl rfl rfl hdX10_isPoint ⟨Nat.le_of_ble_eq_true rfl, Nat.le_of_ble_eq_true rfl⟩ rfl rfl (Nat.le_of_ble_eq_true rfl) ⟨Nat.zero_le _, Nat.zero_le _⟩ [] rfl rfl rfl ([nX10 cI cZ cQ h_t u_t]) rfl dX10_drawPiece_2 (fun hz2 => ?_)
  refine r_if_eq O 8 rfl 12 dX10_drawPiece_5 (by decide) (fun hc5 => ?_) (fun hc5 => ?_)
  · rw [if_pos hc5] at hf
    refine r_bi O 14 rfl (-2) (by decide) dX10_drawPiece_12 ?_
    obtain ⟨g0, g1⟩ := qe2 hf
    exact r_iret2 O E g0 (by rw [g1]) dX10_drawPiece_14
  · rw [if_neg hc5] at hf
    refine r_ild_n O 9 rfl 3 rfl dX10_drawPiece_8 ?_
    refine r_if_ge O 12 rfl 15 dX10_drawPiece_9 (by decide) (fun hc9 => ?_) (fun hc9 => ?_)
    · rw [if_pos hc9] at hf
      refine r_ald_n O 16 rfl 0 rfl dX10_drawPiece_15 ?_
      refine r_ild_n O 17 rfl 1 rfl dX10_drawPiece_16 ?_
      refine r_ild_n O 18 rfl 2 rfl dX10_drawPiece_17 ?_
      obtain ⟨p18_t, hq18, hf⟩ := qb1_some hf
      refine k_VV O 21 rfl (zX10_draw (l := xl X) (D := xD X) (cI := cI) (cZ := cZ) (cQ := cQ) (h_t := h_t) hq18) (gV mlX10_308 mvX10_draw izX10) rfl rfl rfl hdX10_draw ⟨Nat.le_of_ble_eq_true rfl, Nat.le_of_ble_eq_true rfl⟩ rfl 0 rfl rfl rfl rfl (Nat.le_of_ble_eq_true rfl) ⟨Nat.zero_le _, Nat.zero_le _⟩ [0] rfl rfl rfl ([nX10 cI cZ cQ h_t p18_t]) rfl dX10_drawPiece_18 ?_
      refine r_ild_n O 22 rfl 3 rfl dX10_drawPiece_21 ?_
      refine r_ald_n O 23 rfl 0 rfl dX10_drawPiece_22 ?_
      refine r_get (ref := RX10) (C := RX10) (T := TX10) (N := 70) O 26 rfl inBX10 0 50 rfl rfl rfl (by decide) flX10_301 rfl rfl dX10_drawPiece_23 ?_
      refine r_icmp_ge O 29 rfl 43 dX10_drawPiece_26 (by decide) (fun hc26 => ?_) (fun hc26 => ?_)
      · rw [if_pos hc26] at hf
        refine r_bi O 45 rfl (-8) (by decide) dX10_drawPiece_43 ?_
        obtain ⟨g0, g1⟩ := qe2 hf
        exact r_iret2 O E g0 (by rw [g1]) dX10_drawPiece_45
      · rw [if_neg hc26] at hf
        refine r_ald_n O 30 rfl 0 rfl dX10_drawPiece_29 ?_
        refine r_get (ref := RX10) (C := RX10) (T := TX10) (N := 70) O 33 rfl inBX10 0 42 rfl rfl rfl (by decide) flX10_101 rfl rfl dX10_drawPiece_30 ?_
        refine r_ald_n O 34 rfl 0 rfl dX10_drawPiece_33 ?_
        refine r_get (ref := RX10) (C := RX10) (T := TX10) (N := 70) O 37 rfl inBX10 0 49 rfl rfl rfl (by decide) flX10_110 rfl rfl dX10_drawPiece_34 ?_
        refine r_ild_n O 38 rfl 3 rfl dX10_drawPiece_37 ?_
        obtain ⟨x38, ex38, hin38, hf⟩ := qld_some hf
        refine r_iald O 39 rfl 0 27 rfl rfl hin38 dX10_drawPiece_38 ?_
        rw [← ex38]
        obtain ⟨x39, ex39, hin39, hf⟩ := qld_some hf
        refine r_iald O 40 rfl 0 24 rfl rfl hin39 dX10_drawPiece_39 ?_
        rw [← ex39]
        refine r_goto O 45 dX10_drawPiece_40 (by decide) ?_
        obtain ⟨g0, g1⟩ := qe2 hf
        exact r_iret2 O E g0 (by rw [g1]) dX10_drawPiece_45
    · rw [if_neg hc9] at hf
      refine r_bi O 14 rfl (-2) (by decide) dX10_drawPiece_12 ?_
      obtain ⟨g0, g1⟩ := qe2 hf
      exact r_iret2 O E g0 (by rw [g1]) dX10_drawPiece_14
-- X10_isHit
def rmX10_isHit : Room := { frames := 1, cells := 0, slots := 0, locals := 22 }
set_option maxHeartbeats 4000000 in
set_option maxRecDepth 100000 in
theorem zX10_isHit {l : Launch} {D : va_G} {cI cZ cQ : ClassId} {h_t : Nat → Nat} {u_t : Pk} {a1 : Int32} {a2 : Int32} {a3 : Int32} {a4 : Int32} {a5 : Int32} {r0 : Int32} {v_t : Pk} (hf : fX10_isHit u_t a1 a2 a3 a4 a5 = some (r0, v_t)) : MZ l yX10_isHit wsX10_isHit rmX10_isHit D (TY cI cZ cQ) [.ref (h_t 0), .int a1, .int a2, .int a3, .int a4, .int a5] [nX10 cI cZ cQ h_t u_t] r0 [nX10 cI cZ cQ h_t v_t] := by
  refine MZ.of (own := RX10) (by decide +kernel) rfl rfl (Nat.le_of_ble_eq_true rfl) (lv0 := [(0, .ref (h_t 0)), (1, .int a1), (2, .int a2), (3, .int a3), (4, .int a4), (5, .int a5)]) rfl ?_
  intro X O E
  have B92 : ∀ (w_t : Pk) (y4 : Int32) (y5 : Int32) (y6 : Int64) (y8 : Int64) (y10 : Int64) (y12 : Int64) (y14 : Int64) (z0 : Int64), fX10_isHit_b92 w_t y4 y5 y6 y8 y10 y12 y14 z0 = some (r0, v_t) → BK X 18 0 0 92 ([nX10 cI cZ cQ h_t w_t]) [(0, .ref (h_t 0)), (4, .int y4), (5, .int y5), (6, .long y6), (8, .long y8), (10, .long y10), (12, .long y12), (14, .long y14)] [.long z0] := by
    intro w_t y4 y5 y6 y8 y10 y12 y14 z0 hf
    unfold fX10_isHit_b92 at hf
    refine r_lst O 94 rfl [(16, .long z0), (0, .ref (h_t 0)), (4, .int y4), (5, .int y5), (6, .long y6), (8, .long y8), (10, .long y10), (12, .long y12), (14, .long y14)] dX10_isHit_92 (by decide) rfl ?_
    refine r_ald_n O 95 rfl 1 rfl dX10_isHit_94 ?_
    refine r_lld O 97 rfl 0 rfl dX10_isHit_95 ?_
    refine r_lld O 99 rfl 8 rfl dX10_isHit_97 ?_
    refine r_lmul O 100 rfl dX10_isHit_99 ?_
    obtain ⟨p100_t, ep100_t, hf⟩ := qn_some hf
    refine r_put (ref := RX10) (C := RX10) (T := TX10) (N := 70) O 103 rfl inBX10 tyX10 tyX10_ok nmX10 0 51 rfl rfl rfl (by decide) flX10_313 rfl rfl rfl rfl (Nat.le_of_ble_eq_true rfl) ([nX10 cI cZ cQ h_t p100_t]) (by rw [ep100_t]; rfl) dX10_isHit_100 ?_
    refine r_ald_n O 104 rfl 1 rfl dX10_isHit_103 ?_
    refine r_lld O 106 rfl 0 rfl dX10_isHit_104 ?_
    refine r_lld O 108 rfl 6 rfl dX10_isHit_106 ?_
    refine r_lld O 110 rfl 5 rfl dX10_isHit_108 ?_
    refine r_lmul O 111 rfl dX10_isHit_110 ?_
    refine r_lld O 113 rfl 7 rfl dX10_isHit_111 ?_
    refine r_lld O 115 rfl 4 rfl dX10_isHit_113 ?_
    refine r_lmul O 116 rfl dX10_isHit_115 ?_
    refine r_lsub O 117 rfl dX10_isHit_116 ?_
    refine r_lmul O 118 rfl dX10_isHit_117 ?_
    obtain ⟨p118_t, ep118_t, hf⟩ := qn_some hf
    refine r_put (ref := RX10) (C := RX10) (T := TX10) (N := 70) O 121 rfl inBX10 tyX10 tyX10_ok nmX10 0 52 rfl rfl rfl (by decide) flX10_317 rfl rfl rfl rfl (Nat.le_of_ble_eq_true rfl) ([nX10 cI cZ cQ h_t p118_t]) (by rw [ep118_t]; rfl) dX10_isHit_118 ?_
    refine r_ald_n O 122 rfl 1 rfl dX10_isHit_121 ?_
    refine r_lld O 124 rfl 0 rfl dX10_isHit_122 ?_
    refine r_lld O 126 rfl 6 rfl dX10_isHit_124 ?_
    refine r_ild O 128 rfl 3 rfl dX10_isHit_126 ?_
    refine r_i2l O 129 rfl dX10_isHit_128 ?_
    refine r_lmul O 130 rfl dX10_isHit_129 ?_
    refine r_lld O 132 rfl 7 rfl dX10_isHit_130 ?_
    refine r_ild O 134 rfl 2 rfl dX10_isHit_132 ?_
    refine r_i2l O 135 rfl dX10_isHit_134 ?_
    refine r_lmul O 136 rfl dX10_isHit_135 ?_
    refine r_lsub O 137 rfl dX10_isHit_136 ?_
    refine r_lmul O 138 rfl dX10_isHit_137 ?_
    obtain ⟨p138_t, ep138_t, hf⟩ := qn_some hf
    refine r_put (ref := RX10) (C := RX10) (T := TX10) (N := 70) O 141 rfl inBX10 tyX10 tyX10_ok nmX10 0 53 rfl rfl rfl (by decide) flX10_320 rfl rfl rfl rfl (Nat.le_of_ble_eq_true rfl) ([nX10 cI cZ cQ h_t p138_t]) (by rw [ep138_t]; rfl) dX10_isHit_138 ?_
    refine r_ald_n O 142 rfl 1 rfl dX10_isHit_141 ?_
    refine r_get (ref := RX10) (C := RX10) (T := TX10) (N := 70) O 145 rfl inBX10 0 52 rfl rfl rfl (by decide) flX10_317 rfl rfl dX10_isHit_142 ?_
    refine r_lc O 146 rfl 0 (by decide) dX10_isHit_145 ?_
    refine r_lcmp O 147 rfl dX10_isHit_146 ?_
    refine r_if_le O 150 rfl 175 dX10_isHit_147 (by decide) (fun hc147 => ?_) (fun hc147 => ?_)
    · rw [if_pos hc147] at hf
      refine r_ic O 176 rfl 0 (by decide) dX10_isHit_175 ?_
      obtain ⟨g0, g1⟩ := qe2 hf
      exact r_zret2 O E g0 (by rw [g1]) rfl dX10_isHit_176
    · rw [if_neg hc147] at hf
      refine r_ald_n O 151 rfl 1 rfl dX10_isHit_150 ?_
      refine r_get (ref := RX10) (C := RX10) (T := TX10) (N := 70) O 154 rfl inBX10 0 53 rfl rfl rfl (by decide) flX10_320 rfl rfl dX10_isHit_151 ?_
      refine r_lc O 155 rfl 0 (by decide) dX10_isHit_154 ?_
      refine r_lcmp O 156 rfl dX10_isHit_155 ?_
      refine r_if_lt O 159 rfl 175 dX10_isHit_156 (by decide) (fun hc156 => ?_) (fun hc156 => ?_)
      · rw [if_pos hc156] at hf
        refine r_ic O 176 rfl 0 (by decide) dX10_isHit_175 ?_
        obtain ⟨g0, g1⟩ := qe2 hf
        exact r_zret2 O E g0 (by rw [g1]) rfl dX10_isHit_176
      · rw [if_neg hc156] at hf
        refine r_ald_n O 160 rfl 1 rfl dX10_isHit_159 ?_
        refine r_get (ref := RX10) (C := RX10) (T := TX10) (N := 70) O 163 rfl inBX10 0 53 rfl rfl rfl (by decide) flX10_320 rfl rfl dX10_isHit_160 ?_
        refine r_ald_n O 164 rfl 1 rfl dX10_isHit_163 ?_
        refine r_get (ref := RX10) (C := RX10) (T := TX10) (N := 70) O 167 rfl inBX10 0 51 rfl rfl rfl (by decide) flX10_313 rfl rfl dX10_isHit_164 ?_
        refine r_lcmp O 168 rfl dX10_isHit_167 ?_
        refine r_if_gt O 171 rfl 175 dX10_isHit_168 (by decide) (fun hc168 => ?_) (fun hc168 => ?_)
        · rw [if_pos hc168] at hf
          refine r_ic O 176 rfl 0 (by decide) dX10_isHit_175 ?_
          obtain ⟨g0, g1⟩ := qe2 hf
          exact r_zret2 O E g0 (by rw [g1]) rfl dX10_isHit_176
        · rw [if_neg hc168] at hf
          refine r_ic O 172 rfl 1 (by decide) dX10_isHit_171 ?_
          refine r_goto O 176 dX10_isHit_172 (by decide) ?_
          obtain ⟨g0, g1⟩ := qe2 hf
          exact r_zret2 O E g0 (by rw [g1]) rfl dX10_isHit_176
  unfold fX10_isHit at hf
  refine r_ald_n O 1 rfl 0 rfl dX10_isHit_0 ?_
  refine r_ild_n O 2 rfl 1 rfl dX10_isHit_1 ?_
  refine r_ic O 3 rfl 3 (by decide) dX10_isHit_2 ?_
  obtain ⟨x3, hq3, hf⟩ := qb1_some hf
  refine k_VI O 6 rfl (zX10_at (l := xl X) (D := xD X) (cI := cI) (cZ := cZ) (cQ := cQ) (h_t := h_t) hq3) (gV mlX10_129 mvX10_at izX10) rfl rfl rfl hdX10_at ⟨Nat.le_of_ble_eq_true rfl, Nat.le_of_ble_eq_true rfl⟩ rfl 0 rfl rfl rfl rfl (Nat.le_of_ble_eq_true rfl) ⟨Nat.zero_le _, Nat.zero_le _⟩ [0] rfl rfl rfl ([nX10 cI cZ cQ h_t u_t]) rfl dX10_isHit_3 ?_
  refine r_ald_n O 7 rfl 0 rfl dX10_isHit_6 ?_
  refine r_ild_n O 8 rfl 1 rfl dX10_isHit_7 ?_
  refine r_ic O 9 rfl 1 (by decide) dX10_isHit_8 ?_
  obtain ⟨x9, hq9, hf⟩ := qb1_some hf
  refine k_VI O 12 rfl (zX10_at (l := xl X) (D := xD X) (cI := cI) (cZ := cZ) (cQ := cQ) (h_t := h_t) hq9) (gV mlX10_129 mvX10_at izX10) rfl rfl rfl hdX10_at ⟨Nat.le_of_ble_eq_true rfl, Nat.le_of_ble_eq_true rfl⟩ rfl 0 rfl rfl rfl rfl (Nat.le_of_ble_eq_true rfl) ⟨Nat.zero_le _, Nat.zero_le _⟩ [0] rfl rfl rfl ([nX10 cI cZ cQ h_t u_t]) rfl dX10_isHit_9 ?_
  refine r_isub O 13 rfl dX10_isHit_12 ?_
  refine r_i2l O 14 rfl dX10_isHit_13 ?_
  obtain ⟨x14, ex14, hf⟩ := qn_some hf
  rw [← ex14]
  refine r_lst O 16 rfl [(6, .long x14), (0, .ref (h_t 0)), (1, .int a1), (2, .int a2), (3, .int a3), (4, .int a4), (5, .int a5)] dX10_isHit_14 (by decide) rfl ?_
  refine r_ald_n O 17 rfl 1 rfl dX10_isHit_16 ?_
  refine r_ild_n O 18 rfl 2 rfl dX10_isHit_17 ?_
  refine r_ic O 19 rfl 4 (by decide) dX10_isHit_18 ?_
  obtain ⟨x19, hq19, hf⟩ := qb1_some hf
  refine k_VI O 22 rfl (zX10_at (l := xl X) (D := xD X) (cI := cI) (cZ := cZ) (cQ := cQ) (h_t := h_t) hq19) (gV mlX10_129 mvX10_at izX10) rfl rfl rfl hdX10_at ⟨Nat.le_of_ble_eq_true rfl, Nat.le_of_ble_eq_true rfl⟩ rfl 0 rfl rfl rfl rfl (Nat.le_of_ble_eq_true rfl) ⟨Nat.zero_le _, Nat.zero_le _⟩ [0] rfl rfl rfl ([nX10 cI cZ cQ h_t u_t]) rfl dX10_isHit_19 ?_
  refine r_ald_n O 23 rfl 1 rfl dX10_isHit_22 ?_
  refine r_ild_n O 24 rfl 2 rfl dX10_isHit_23 ?_
  refine r_ic O 25 rfl 2 (by decide) dX10_isHit_24 ?_
  obtain ⟨x25, hq25, hf⟩ := qb1_some hf
  refine k_VI O 28 rfl (zX10_at (l := xl X) (D := xD X) (cI := cI) (cZ := cZ) (cQ := cQ) (h_t := h_t) hq25) (gV mlX10_129 mvX10_at izX10) rfl rfl rfl hdX10_at ⟨Nat.le_of_ble_eq_true rfl, Nat.le_of_ble_eq_true rfl⟩ rfl 0 rfl rfl rfl rfl (Nat.le_of_ble_eq_true rfl) ⟨Nat.zero_le _, Nat.zero_le _⟩ [0] rfl rfl rfl ([nX10 cI cZ cQ h_t u_t]) rfl dX10_isHit_25 ?_
  refine r_isub O 29 rfl dX10_isHit_28 ?_
  refine r_i2l O 30 rfl dX10_isHit_29 ?_
  obtain ⟨x30, ex30, hf⟩ := qn_some hf
  rw [← ex30]
  refine r_lst O 32 rfl [(8, .long x30), (6, .long x14), (0, .ref (h_t 0)), (1, .int a1), (2, .int a2), (3, .int a3), (4, .int a4), (5, .int a5)] dX10_isHit_30 (by decide) rfl ?_
  refine r_ald_n O 33 rfl 2 rfl dX10_isHit_32 ?_
  refine r_ild_n O 34 rfl 3 rfl dX10_isHit_33 ?_
  refine r_ic O 35 rfl 1 (by decide) dX10_isHit_34 ?_
  obtain ⟨x35, hq35, hf⟩ := qb1_some hf
  refine k_VI O 38 rfl (zX10_at (l := xl X) (D := xD X) (cI := cI) (cZ := cZ) (cQ := cQ) (h_t := h_t) hq35) (gV mlX10_129 mvX10_at izX10) rfl rfl rfl hdX10_at ⟨Nat.le_of_ble_eq_true rfl, Nat.le_of_ble_eq_true rfl⟩ rfl 0 rfl rfl rfl rfl (Nat.le_of_ble_eq_true rfl) ⟨Nat.zero_le _, Nat.zero_le _⟩ [0] rfl rfl rfl ([nX10 cI cZ cQ h_t u_t]) rfl dX10_isHit_35 ?_
  refine r_ild_n O 39 rfl 4 rfl dX10_isHit_38 ?_
  refine r_isub O 40 rfl dX10_isHit_39 ?_
  refine r_i2l O 41 rfl dX10_isHit_40 ?_
  obtain ⟨x41, ex41, hf⟩ := qn_some hf
  rw [← ex41]
  refine r_lst O 43 rfl [(10, .long x41), (8, .long x30), (6, .long x14), (0, .ref (h_t 0)), (1, .int a1), (2, .int a2), (3, .int a3), (4, .int a4), (5, .int a5)] dX10_isHit_41 (by decide) rfl ?_
  refine r_ald_n O 44 rfl 3 rfl dX10_isHit_43 ?_
  refine r_ild_n O 45 rfl 4 rfl dX10_isHit_44 ?_
  refine r_ic O 46 rfl 2 (by decide) dX10_isHit_45 ?_
  obtain ⟨x46, hq46, hf⟩ := qb1_some hf
  refine k_VI O 49 rfl (zX10_at (l := xl X) (D := xD X) (cI := cI) (cZ := cZ) (cQ := cQ) (h_t := h_t) hq46) (gV mlX10_129 mvX10_at izX10) rfl rfl rfl hdX10_at ⟨Nat.le_of_ble_eq_true rfl, Nat.le_of_ble_eq_true rfl⟩ rfl 0 rfl rfl rfl rfl (Nat.le_of_ble_eq_true rfl) ⟨Nat.zero_le _, Nat.zero_le _⟩ [0] rfl rfl rfl ([nX10 cI cZ cQ h_t u_t]) rfl dX10_isHit_46 ?_
  refine r_ild_n O 50 rfl 6 rfl dX10_isHit_49 ?_
  refine r_isub O 51 rfl dX10_isHit_50 ?_
  refine r_i2l O 52 rfl dX10_isHit_51 ?_
  obtain ⟨x52, ex52, hf⟩ := qn_some hf
  rw [← ex52]
  refine r_lst O 54 rfl [(12, .long x52), (10, .long x41), (8, .long x30), (6, .long x14), (0, .ref (h_t 0)), (1, .int a1), (2, .int a2), (3, .int a3), (4, .int a4), (5, .int a5)] dX10_isHit_52 (by decide) rfl ?_
  refine r_ild O 56 rfl 8 rfl dX10_isHit_54 ?_
  refine r_i2l O 57 rfl dX10_isHit_56 ?_
  refine r_lld O 59 rfl 2 rfl dX10_isHit_57 ?_
  refine r_lmul O 60 rfl dX10_isHit_59 ?_
  refine r_ild O 62 rfl 9 rfl dX10_isHit_60 ?_
  refine r_i2l O 63 rfl dX10_isHit_62 ?_
  refine r_lld O 65 rfl 3 rfl dX10_isHit_63 ?_
  refine r_lmul O 66 rfl dX10_isHit_65 ?_
  refine r_lsub O 67 rfl dX10_isHit_66 ?_
  obtain ⟨x67, ex67, hf⟩ := qn_some hf
  rw [← ex67]
  refine r_lst O 69 rfl [(14, .long x67), (12, .long x52), (10, .long x41), (8, .long x30), (6, .long x14), (0, .ref (h_t 0)), (1, .int a1), (2, .int a2), (3, .int a3), (4, .int a4), (5, .int a5)] dX10_isHit_67 (by decide) rfl ?_
  refine r_lld O 71 rfl 0 rfl dX10_isHit_69 ?_
  refine r_lc O 72 rfl 0 (by decide) dX10_isHit_71 ?_
  refine r_lcmp O 73 rfl dX10_isHit_72 ?_
  refine r_if_ne O 76 rfl 78 dX10_isHit_73 (by decide) (fun hc73 => ?_) (fun hc73 => ?_)
  · rw [if_neg hc73] at hf
    refine r_lld O 80 rfl 0 rfl dX10_isHit_78 ?_
    refine r_lc O 81 rfl 0 (by decide) dX10_isHit_80 ?_
    refine r_lcmp O 82 rfl dX10_isHit_81 ?_
    refine r_if_le O 85 rfl 89 dX10_isHit_82 (by decide) (fun hc82 => ?_) (fun hc82 => ?_)
    · rw [if_pos hc82] at hf
      refine r_ldcl O 92 rfl (v := (-1)) clX10_311 dX10_isHit_89 ?_
      refine r_lv [5, 9, 10, 4, 3, 2, 1, 0] rfl ?_
      exact B92 _ _ _ _ _ _ _ _ _ hf
    · rw [if_neg hc82] at hf
      refine r_lc O 86 rfl 1 (by decide) dX10_isHit_85 ?_
      refine r_goto O 92 dX10_isHit_86 (by decide) ?_
      refine r_lv [5, 9, 10, 4, 3, 2, 1, 0] rfl ?_
      exact B92 _ _ _ _ _ _ _ _ _ hf
  · rw [if_pos hc73] at hf
    refine r_ic O 77 rfl 0 (by decide) dX10_isHit_76 ?_
    obtain ⟨g0, g1⟩ := qe2 hf
    exact r_zret2 O E g0 (by rw [g1]) rfl dX10_isHit_77
-- X10_isPicture
def rmX10_isPicture : Room := { frames := 2, cells := 0, slots := 0, locals := 41 }
set_option maxHeartbeats 4000000 in
set_option maxRecDepth 100000 in
theorem zX10_isPicture {l : Launch} {D : va_G} {cI cZ cQ : ClassId} {a1 : Int32} {a2 : Int32} {a3 : Int32} {a4 : Int32} {r0 : Int32} (hf : fX10_isPicture a1 a2 a3 a4 = some r0) : MZ l yX10_isPicture wsX10_isPicture rmX10_isPicture D (TY cI cZ cQ) [.int a1, .int a2, .int a3, .int a4] [] r0 [] := by
  refine MZ.of (own := RX10) (by decide +kernel) rfl rfl (Nat.le_of_ble_eq_true rfl) (lv0 := [(0, .int a1), (1, .int a2), (2, .int a3), (3, .int a4)]) rfl ?_
  intro X O E
  unfold fX10_isPicture at hf
  refine r_ild_n O 1 rfl 0 rfl dX10_isPicture_0 ?_
  refine r_ild_n O 2 rfl 1 rfl dX10_isPicture_1 ?_
  obtain ⟨x2, hq2, hf⟩ := qb1_some hf
  refine k_SZ O 5 rfl (zX10_isPoint (l := xl X) (D := xD X) (cI := cI) (cZ := cZ) (cQ := cQ) hq2) (gS mlX10_297 mvX10_isPoint izX10) rfl rfl rfl hdX10_isPoint ⟨Nat.le_of_ble_eq_true rfl, Nat.le_of_ble_eq_true rfl⟩ rfl rfl (Nat.le_of_ble_eq_true rfl) ⟨Nat.zero_le _, Nat.zero_le _⟩ [] rfl rfl rfl ([]) rfl dX10_isPicture_2 (fun hz2 => ?_)
  refine r_if_eq O 8 rfl 44 dX10_isPicture_5 (by decide) (fun hc5 => ?_) (fun hc5 => ?_)
  · rw [if_pos hc5] at hf
    refine r_ic O 45 rfl 0 (by decide) dX10_isPicture_44 ?_
    obtain g0 := qe1 hf
    exact r_zret2 O E g0 rfl rfl dX10_isPicture_45
  · rw [if_neg hc5] at hf
    refine r_ild_n O 9 rfl 2 rfl dX10_isPicture_8 ?_
    refine r_bi O 11 rfl (-8) (by decide) dX10_isPicture_9 ?_
    refine r_icmp_lt O 14 rfl 44 dX10_isPicture_11 (by decide) (fun hc11 => ?_) (fun hc11 => ?_)
    · rw [if_pos hc11] at hf
      refine r_ic O 45 rfl 0 (by decide) dX10_isPicture_44 ?_
      obtain g0 := qe1 hf
      exact r_zret2 O E g0 rfl rfl dX10_isPicture_45
    · rw [if_neg hc11] at hf
      refine r_ild_n O 15 rfl 2 rfl dX10_isPicture_14 ?_
      refine r_bi O 17 rfl 8 (by decide) dX10_isPicture_15 ?_
      refine r_icmp_gt O 20 rfl 44 dX10_isPicture_17 (by decide) (fun hc17 => ?_) (fun hc17 => ?_)
      · rw [if_pos hc17] at hf
        refine r_ic O 45 rfl 0 (by decide) dX10_isPicture_44 ?_
        obtain g0 := qe1 hf
        exact r_zret2 O E g0 rfl rfl dX10_isPicture_45
      · rw [if_neg hc17] at hf
        refine r_ild_n O 21 rfl 3 rfl dX10_isPicture_20 ?_
        refine r_bi O 23 rfl (-8) (by decide) dX10_isPicture_21 ?_
        refine r_icmp_lt O 26 rfl 44 dX10_isPicture_23 (by decide) (fun hc23 => ?_) (fun hc23 => ?_)
        · rw [if_pos hc23] at hf
          refine r_ic O 45 rfl 0 (by decide) dX10_isPicture_44 ?_
          obtain g0 := qe1 hf
          exact r_zret2 O E g0 rfl rfl dX10_isPicture_45
        · rw [if_neg hc23] at hf
          refine r_ild_n O 27 rfl 3 rfl dX10_isPicture_26 ?_
          refine r_bi O 29 rfl 8 (by decide) dX10_isPicture_27 ?_
          refine r_icmp_gt O 32 rfl 44 dX10_isPicture_29 (by decide) (fun hc29 => ?_) (fun hc29 => ?_)
          · rw [if_pos hc29] at hf
            refine r_ic O 45 rfl 0 (by decide) dX10_isPicture_44 ?_
            obtain g0 := qe1 hf
            exact r_zret2 O E g0 rfl rfl dX10_isPicture_45
          · rw [if_neg hc29] at hf
            refine r_ild_n O 33 rfl 2 rfl dX10_isPicture_32 ?_
            refine r_if_ne O 36 rfl 40 dX10_isPicture_33 (by decide) (fun hc33 => ?_) (fun hc33 => ?_)
            · rw [if_neg hc33] at hf
              refine r_ic O 41 rfl 1 (by decide) dX10_isPicture_40 ?_
              refine r_goto O 45 dX10_isPicture_41 (by decide) ?_
              obtain g0 := qe1 hf
              exact r_zret2 O E g0 rfl rfl dX10_isPicture_45
            · rw [if_pos hc33] at hf
              refine r_ild_n O 37 rfl 3 rfl dX10_isPicture_36 ?_
              refine r_if_eq O 40 rfl 44 dX10_isPicture_37 (by decide) (fun hc37 => ?_) (fun hc37 => ?_)
              · rw [if_pos hc37] at hf
                refine r_ic O 45 rfl 0 (by decide) dX10_isPicture_44 ?_
                obtain g0 := qe1 hf
                exact r_zret2 O E g0 rfl rfl dX10_isPicture_45
              · rw [if_neg hc37] at hf
                refine r_ic O 41 rfl 1 (by decide) dX10_isPicture_40 ?_
                refine r_goto O 45 dX10_isPicture_41 (by decide) ?_
                obtain g0 := qe1 hf
                exact r_zret2 O E g0 rfl rfl dX10_isPicture_45
-- X10_rayX
def rmX10_rayX : Room := { frames := 0, cells := 0, slots := 0, locals := 0 }
set_option maxHeartbeats 4000000 in
set_option maxRecDepth 100000 in
theorem zX10_rayX {l : Launch} {D : va_G} {cI cZ cQ : ClassId} {a1 : Int32} {a2 : Int32} {a3 : Int32} {r0 : Int32} (hf : fX10_rayX a1 a2 a3 = some r0) : MI l yX10_rayX wsX10_rayX rmX10_rayX D (TY cI cZ cQ) [.int a1, .int a2, .int a3] [] r0 [] := by
  refine MI.of (own := RX10) (by decide +kernel) rfl rfl (Nat.le_of_ble_eq_true rfl) (lv0 := [(0, .int a1), (1, .int a2), (2, .int a3)]) rfl ?_
  intro X O E
  unfold fX10_rayX at hf
  refine r_bi O 2 rfl 32 (by decide) dX10_rayX_0 ?_
  refine r_ild_n O 3 rfl 0 rfl dX10_rayX_2 ?_
  refine r_imul O 4 rfl dX10_rayX_3 ?_
  refine r_bi O 6 rfl 31 (by decide) dX10_rayX_4 ?_
  refine r_ic O 7 rfl 2 (by decide) dX10_rayX_6 ?_
  refine r_ild_n O 8 rfl 2 rfl dX10_rayX_7 ?_
  refine r_imul O 9 rfl dX10_rayX_8 ?_
  refine r_isub O 10 rfl dX10_rayX_9 ?_
  refine r_ild_n O 11 rfl 1 rfl dX10_rayX_10 ?_
  refine r_imul O 12 rfl dX10_rayX_11 ?_
  refine r_isub O 13 rfl dX10_rayX_12 ?_
  obtain g0 := qe1 hf
  exact r_iret2 O E g0 rfl dX10_rayX_13
-- X10_rayY
def rmX10_rayY : Room := { frames := 0, cells := 0, slots := 0, locals := 0 }
set_option maxHeartbeats 4000000 in
set_option maxRecDepth 100000 in
theorem zX10_rayY {l : Launch} {D : va_G} {cI cZ cQ : ClassId} {a1 : Int32} {a2 : Int32} {a3 : Int32} {r0 : Int32} (hf : fX10_rayY a1 a2 a3 = some r0) : MI l yX10_rayY wsX10_rayY rmX10_rayY D (TY cI cZ cQ) [.int a1, .int a2, .int a3] [] r0 [] := by
  refine MI.of (own := RX10) (by decide +kernel) rfl rfl (Nat.le_of_ble_eq_true rfl) (lv0 := [(0, .int a1), (1, .int a2), (2, .int a3)]) rfl ?_
  intro X O E
  unfold fX10_rayY at hf
  refine r_bi O 2 rfl 32 (by decide) dX10_rayY_0 ?_
  refine r_ild_n O 3 rfl 1 rfl dX10_rayY_2 ?_
  refine r_imul O 4 rfl dX10_rayY_3 ?_
  refine r_bi O 6 rfl 31 (by decide) dX10_rayY_4 ?_
  refine r_ic O 7 rfl 2 (by decide) dX10_rayY_6 ?_
  refine r_ild_n O 8 rfl 2 rfl dX10_rayY_7 ?_
  refine r_imul O 9 rfl dX10_rayY_8 ?_
  refine r_isub O 10 rfl dX10_rayY_9 ?_
  refine r_ild_n O 11 rfl 0 rfl dX10_rayY_10 ?_
  refine r_imul O 12 rfl dX10_rayY_11 ?_
  refine r_iadd O 13 rfl dX10_rayY_12 ?_
  obtain g0 := qe1 hf
  exact r_iret2 O E g0 rfl dX10_rayY_13
-- X10_covers
def rmX10_covers : Room := { frames := 2, cells := 0, slots := 0, locals := 59 }
set_option maxHeartbeats 4000000 in
set_option maxRecDepth 100000 in
theorem zX10_covers {l : Launch} {D : va_G} {cI cZ cQ : ClassId} {h_t : Nat → Nat} {u_t : Pk} {a1 : Int32} {a2 : Int32} {a3 : Int32} {a4 : Int32} {a5 : Int32} {a6 : Int32} {r0 : Int32} {v_t : Pk} (hf : fX10_covers u_t a1 a2 a3 a4 a5 a6 = some (r0, v_t)) : MZ l yX10_covers wsX10_covers rmX10_covers D (TY cI cZ cQ) [.ref (h_t 0), .int a1, .int a2, .int a3, .int a4, .int a5, .int a6] [nX10 cI cZ cQ h_t u_t] r0 [nX10 cI cZ cQ h_t v_t] := by
  refine MZ.of (own := RX10) (by decide +kernel) rfl rfl (Nat.le_of_ble_eq_true rfl) (lv0 := [(0, .ref (h_t 0)), (1, .int a1), (2, .int a2), (3, .int a3), (4, .int a4), (5, .int a5), (6, .int a6)]) rfl ?_
  intro X O E
  unfold fX10_covers at hf
  refine r_ald_n O 1 rfl 0 rfl dX10_covers_0 ?_
  refine r_ald_n O 2 rfl 0 rfl dX10_covers_1 ?_
  refine r_get (ref := RX10) (C := RX10) (T := TX10) (N := 70) O 5 rfl inBX10 0 27 rfl rfl rfl (by decide) flX10_62 rfl rfl dX10_covers_2 ?_
  refine r_ild_n O 6 rfl 1 rfl dX10_covers_5 ?_
  obtain ⟨x6, ex6, hin6, hf⟩ := qld_some hf
  refine r_iald O 7 rfl 0 11 rfl rfl hin6 dX10_covers_6 ?_
  rw [← ex6]
  refine r_ild_n O 8 rfl 2 rfl dX10_covers_7 ?_
  refine r_ild_n O 9 rfl 3 rfl dX10_covers_8 ?_
  refine r_ild O 11 rfl 4 rfl dX10_covers_9 ?_
  refine r_ild O 13 rfl 5 rfl dX10_covers_11 ?_
  refine r_ild O 15 rfl 6 rfl dX10_covers_13 ?_
  obtain ⟨x15, hq15, hf⟩ := qb1_some hf
  refine k_SI O 18 rfl (zX10_rayX (l := xl X) (D := xD X) (cI := cI) (cZ := cZ) (cQ := cQ) hq15) (gS mlX10_323 mvX10_rayX izX10) rfl rfl rfl hdX10_rayX ⟨Nat.le_of_ble_eq_true rfl, Nat.le_of_ble_eq_true rfl⟩ rfl rfl (Nat.le_of_ble_eq_true rfl) ⟨Nat.zero_le _, Nat.zero_le _⟩ [] rfl rfl rfl ([nX10 cI cZ cQ h_t u_t]) rfl dX10_covers_15 ?_
  refine r_ild O 20 rfl 4 rfl dX10_covers_18 ?_
  refine r_ild O 22 rfl 5 rfl dX10_covers_20 ?_
  refine r_ild O 24 rfl 6 rfl dX10_covers_22 ?_
  obtain ⟨x24, hq24, hf⟩ := qb1_some hf
  refine k_SI O 27 rfl (zX10_rayY (l := xl X) (D := xD X) (cI := cI) (cZ := cZ) (cQ := cQ) hq24) (gS mlX10_326 mvX10_rayY izX10) rfl rfl rfl hdX10_rayY ⟨Nat.le_of_ble_eq_true rfl, Nat.le_of_ble_eq_true rfl⟩ rfl rfl (Nat.le_of_ble_eq_true rfl) ⟨Nat.zero_le _, Nat.zero_le _⟩ [] rfl rfl rfl ([nX10 cI cZ cQ h_t u_t]) rfl dX10_covers_24 ?_
  obtain ⟨x27, p27_t, hq27, hf⟩ := qb2_some hf
  refine k_VZ O 30 rfl (zX10_isHit (l := xl X) (D := xD X) (cI := cI) (cZ := cZ) (cQ := cQ) (h_t := h_t) hq27) (gV mlX10_329 mvX10_isHit izX10) rfl rfl rfl hdX10_isHit ⟨Nat.le_of_ble_eq_true rfl, Nat.le_of_ble_eq_true rfl⟩ rfl 0 rfl rfl rfl rfl (Nat.le_of_ble_eq_true rfl) ⟨Nat.zero_le _, Nat.zero_le _⟩ [0] rfl rfl rfl ([nX10 cI cZ cQ h_t p27_t]) rfl dX10_covers_27 (fun hz27 => ?_)
  refine r_if_ne O 33 rfl 35 dX10_covers_30 (by decide) (fun hc30 => ?_) (fun hc30 => ?_)
  · rw [if_neg hc30] at hf
    refine r_ald_n O 36 rfl 0 rfl dX10_covers_35 ?_
    refine r_get (ref := RX10) (C := RX10) (T := TX10) (N := 70) O 39 rfl inBX10 0 53 rfl rfl rfl (by decide) flX10_320 rfl rfl dX10_covers_36 ?_
    refine r_ald_n O 40 rfl 0 rfl dX10_covers_39 ?_
    refine r_get (ref := RX10) (C := RX10) (T := TX10) (N := 70) O 43 rfl inBX10 0 29 rfl rfl rfl (by decide) flX10_68 rfl rfl dX10_covers_40 ?_
    refine r_ic O 44 rfl 4 (by decide) dX10_covers_43 ?_
    refine r_ild_n O 45 rfl 1 rfl dX10_covers_44 ?_
    refine r_imul O 46 rfl dX10_covers_45 ?_
    refine r_ic O 47 rfl 1 (by decide) dX10_covers_46 ?_
    refine r_iadd O 48 rfl dX10_covers_47 ?_
    obtain ⟨x48, ex48, hin48, hf⟩ := qld_some hf
    refine r_iald O 49 rfl 0 13 rfl rfl hin48 dX10_covers_48 ?_
    rw [← ex48]
    refine r_i2l O 50 rfl dX10_covers_49 ?_
    refine r_lmul O 51 rfl dX10_covers_50 ?_
    refine r_ald_n O 52 rfl 0 rfl dX10_covers_51 ?_
    refine r_get (ref := RX10) (C := RX10) (T := TX10) (N := 70) O 55 rfl inBX10 0 51 rfl rfl rfl (by decide) flX10_313 rfl rfl dX10_covers_52 ?_
    refine r_ald_n O 56 rfl 0 rfl dX10_covers_55 ?_
    refine r_get (ref := RX10) (C := RX10) (T := TX10) (N := 70) O 59 rfl inBX10 0 29 rfl rfl rfl (by decide) flX10_68 rfl rfl dX10_covers_56 ?_
    refine r_ic O 60 rfl 4 (by decide) dX10_covers_59 ?_
    refine r_ild_n O 61 rfl 1 rfl dX10_covers_60 ?_
    refine r_imul O 62 rfl dX10_covers_61 ?_
    obtain ⟨x62, ex62, hin62, hf⟩ := qld_some hf
    refine r_iald O 63 rfl 0 13 rfl rfl hin62 dX10_covers_62 ?_
    rw [← ex62]
    refine r_i2l O 64 rfl dX10_covers_63 ?_
    refine r_lmul O 65 rfl dX10_covers_64 ?_
    refine r_lcmp O 66 rfl dX10_covers_65 ?_
    refine r_if_lt O 69 rfl 109 dX10_covers_66 (by decide) (fun hc66 => ?_) (fun hc66 => ?_)
    · rw [if_pos hc66] at hf
      refine r_ic O 110 rfl 0 (by decide) dX10_covers_109 ?_
      obtain ⟨g0, g1⟩ := qe2 hf
      exact r_zret2 O E g0 (by rw [g1]) rfl dX10_covers_110
    · rw [if_neg hc66] at hf
      refine r_ald_n O 70 rfl 0 rfl dX10_covers_69 ?_
      refine r_get (ref := RX10) (C := RX10) (T := TX10) (N := 70) O 73 rfl inBX10 0 53 rfl rfl rfl (by decide) flX10_320 rfl rfl dX10_covers_70 ?_
      refine r_ald_n O 74 rfl 0 rfl dX10_covers_73 ?_
      refine r_get (ref := RX10) (C := RX10) (T := TX10) (N := 70) O 77 rfl inBX10 0 29 rfl rfl rfl (by decide) flX10_68 rfl rfl dX10_covers_74 ?_
      refine r_ic O 78 rfl 4 (by decide) dX10_covers_77 ?_
      refine r_ild_n O 79 rfl 1 rfl dX10_covers_78 ?_
      refine r_imul O 80 rfl dX10_covers_79 ?_
      refine r_ic O 81 rfl 3 (by decide) dX10_covers_80 ?_
      refine r_iadd O 82 rfl dX10_covers_81 ?_
      obtain ⟨x82, ex82, hin82, hf⟩ := qld_some hf
      refine r_iald O 83 rfl 0 13 rfl rfl hin82 dX10_covers_82 ?_
      rw [← ex82]
      refine r_i2l O 84 rfl dX10_covers_83 ?_
      refine r_lmul O 85 rfl dX10_covers_84 ?_
      refine r_ald_n O 86 rfl 0 rfl dX10_covers_85 ?_
      refine r_get (ref := RX10) (C := RX10) (T := TX10) (N := 70) O 89 rfl inBX10 0 51 rfl rfl rfl (by decide) flX10_313 rfl rfl dX10_covers_86 ?_
      refine r_ald_n O 90 rfl 0 rfl dX10_covers_89 ?_
      refine r_get (ref := RX10) (C := RX10) (T := TX10) (N := 70) O 93 rfl inBX10 0 29 rfl rfl rfl (by decide) flX10_68 rfl rfl dX10_covers_90 ?_
      refine r_ic O 94 rfl 4 (by decide) dX10_covers_93 ?_
      refine r_ild_n O 95 rfl 1 rfl dX10_covers_94 ?_
      refine r_imul O 96 rfl dX10_covers_95 ?_
      refine r_ic O 97 rfl 2 (by decide) dX10_covers_96 ?_
      refine r_iadd O 98 rfl dX10_covers_97 ?_
      obtain ⟨x98, ex98, hin98, hf⟩ := qld_some hf
      refine r_iald O 99 rfl 0 13 rfl rfl hin98 dX10_covers_98 ?_
      rw [← ex98]
      refine r_i2l O 100 rfl dX10_covers_99 ?_
      refine r_lmul O 101 rfl dX10_covers_100 ?_
      refine r_lcmp O 102 rfl dX10_covers_101 ?_
      refine r_if_gt O 105 rfl 109 dX10_covers_102 (by decide) (fun hc102 => ?_) (fun hc102 => ?_)
      · rw [if_pos hc102] at hf
        refine r_ic O 110 rfl 0 (by decide) dX10_covers_109 ?_
        obtain ⟨g0, g1⟩ := qe2 hf
        exact r_zret2 O E g0 (by rw [g1]) rfl dX10_covers_110
      · rw [if_neg hc102] at hf
        refine r_ic O 106 rfl 1 (by decide) dX10_covers_105 ?_
        refine r_goto O 110 dX10_covers_106 (by decide) ?_
        obtain ⟨g0, g1⟩ := qe2 hf
        exact r_zret2 O E g0 (by rw [g1]) rfl dX10_covers_110
  · rw [if_pos hc30] at hf
    refine r_ic O 34 rfl 0 (by decide) dX10_covers_33 ?_
    obtain ⟨g0, g1⟩ := qe2 hf
    exact r_zret2 O E g0 (by rw [g1]) rfl dX10_covers_34
