theorem in_0 {w : Cond} {i : Nat} (h : (k2_sels lw_privs)[i]? = some w) (hg : goodWord w = true) : w ∈ gtb := List.mem_filter.mpr ⟨List.mem_append_left _ (List.mem_of_getElem? h), hg⟩
theorem in_1 {w : Cond} {i : Nat} (h : tables_1_1[i]? = some w) (hg : goodWord w = true) : w ∈ gtb := List.mem_filter.mpr ⟨List.mem_append_right _ (List.mem_append_left _ (List.mem_of_getElem? h)), hg⟩
theorem in_2 {w : Cond} {i : Nat} (h : tables_1_2[i]? = some w) (hg : goodWord w = true) : w ∈ gtb := List.mem_filter.mpr ⟨List.mem_append_right _ (List.mem_append_right _ (List.mem_append_left _ (List.mem_of_getElem? h))), hg⟩
theorem in_3 {w : Cond} {i : Nat} (h : tables_1_3[i]? = some w) (hg : goodWord w = true) : w ∈ gtb := List.mem_filter.mpr ⟨List.mem_append_right _ (List.mem_append_right _ (List.mem_append_right _ (List.mem_append_left _ (List.mem_of_getElem? h)))), hg⟩
theorem in_4 {w : Cond} {i : Nat} (h : tables_1_4[i]? = some w) (hg : goodWord w = true) : w ∈ gtb := List.mem_filter.mpr ⟨List.mem_append_right _ (List.mem_append_right _ (List.mem_append_right _ (List.mem_append_right _ (List.mem_append_left _ (List.mem_of_getElem? h))))), hg⟩
theorem in_5 {w : Cond} {i : Nat} (h : tables_1_5[i]? = some w) (hg : goodWord w = true) : w ∈ gtb := List.mem_filter.mpr ⟨List.mem_append_right _ (List.mem_append_right _ (List.mem_append_right _ (List.mem_append_right _ (List.mem_append_right _ (List.mem_append_left _ (List.mem_of_getElem? h)))))), hg⟩
theorem in_6 {w : Cond} {i : Nat} (h : tables_1_6[i]? = some w) (hg : goodWord w = true) : w ∈ gtb := List.mem_filter.mpr ⟨List.mem_append_right _ (List.mem_append_right _ (List.mem_append_right _ (List.mem_append_right _ (List.mem_append_right _ (List.mem_append_right _ ((List.mem_of_getElem? h))))))), hg⟩
theorem iw_0 : ∀ w ∈ u_ws RX0 TX0 2, w ∈ gtb := by
  show ∀ w ∈ [u_lay RX0 TX0 0, u_lay RX0 TX0 1], w ∈ gtb
  exact List.forall_mem_cons.mpr ⟨(in_1 (i := 133) rfl rfl), List.forall_mem_cons.mpr ⟨(in_1 (i := 135) rfl rfl), fun _ h => absurd h List.not_mem_nil⟩⟩
theorem iw_1 : ∀ w ∈ u_ws RX1 TX1 3, w ∈ gtb := by
  show ∀ w ∈ [u_lay RX1 TX1 0, u_lay RX1 TX1 1, u_lay RX1 TX1 2], w ∈ gtb
  exact List.forall_mem_cons.mpr ⟨(in_1 (i := 204) rfl rfl), List.forall_mem_cons.mpr ⟨(in_1 (i := 206) rfl rfl), List.forall_mem_cons.mpr ⟨(in_1 (i := 208) rfl rfl), fun _ h => absurd h List.not_mem_nil⟩⟩⟩
theorem iw_2 : ∀ w ∈ u_ws RX2 TX2 4, w ∈ gtb := by
  show ∀ w ∈ [u_lay RX2 TX2 0, u_lay RX2 TX2 1, u_lay RX2 TX2 2, u_lay RX2 TX2 3], w ∈ gtb
  exact List.forall_mem_cons.mpr ⟨(in_1 (i := 171) rfl rfl), List.forall_mem_cons.mpr ⟨(in_1 (i := 173) rfl rfl), List.forall_mem_cons.mpr ⟨(in_1 (i := 175) rfl rfl), List.forall_mem_cons.mpr ⟨(in_1 (i := 177) rfl rfl), fun _ h => absurd h List.not_mem_nil⟩⟩⟩⟩
theorem iw_3 : ∀ w ∈ u_ws RX3 TX3 2, w ∈ gtb := by
  show ∀ w ∈ [u_lay RX3 TX3 0, u_lay RX3 TX3 1], w ∈ gtb
  exact List.forall_mem_cons.mpr ⟨(in_2 (i := 2) rfl rfl), List.forall_mem_cons.mpr ⟨(in_2 (i := 4) rfl rfl), fun _ h => absurd h List.not_mem_nil⟩⟩
theorem iw_4 : ∀ w ∈ u_ws RX4 TX4 2, w ∈ gtb := by
  show ∀ w ∈ [u_lay RX4 TX4 0, u_lay RX4 TX4 1], w ∈ gtb
  exact List.forall_mem_cons.mpr ⟨(in_1 (i := 220) rfl rfl), List.forall_mem_cons.mpr ⟨(in_1 (i := 222) rfl rfl), fun _ h => absurd h List.not_mem_nil⟩⟩
theorem iw_5 : ∀ w ∈ u_ws RX5 TX5 1, w ∈ gtb := by
  show ∀ w ∈ [u_lay RX5 TX5 0], w ∈ gtb
  exact List.forall_mem_cons.mpr ⟨(in_1 (i := 189) rfl rfl), fun _ h => absurd h List.not_mem_nil⟩
theorem iw_6 : ∀ w ∈ u_ws RX6 TX6 4, w ∈ gtb := by
  show ∀ w ∈ [u_lay RX6 TX6 0, u_lay RX6 TX6 1, u_lay RX6 TX6 2, u_lay RX6 TX6 3], w ∈ gtb
  exact List.forall_mem_cons.mpr ⟨(in_2 (i := 22) rfl rfl), List.forall_mem_cons.mpr ⟨(in_2 (i := 24) rfl rfl), List.forall_mem_cons.mpr ⟨(in_2 (i := 26) rfl rfl), List.forall_mem_cons.mpr ⟨(in_2 (i := 28) rfl rfl), fun _ h => absurd h List.not_mem_nil⟩⟩⟩⟩
theorem iw_7 : ∀ w ∈ u_ws RX7 TX7 7, w ∈ gtb := by
  show ∀ w ∈ [u_lay RX7 TX7 0, u_lay RX7 TX7 1, u_lay RX7 TX7 2, u_lay RX7 TX7 3, u_lay RX7 TX7 4, u_lay RX7 TX7 5, u_lay RX7 TX7 6], w ∈ gtb
  exact List.forall_mem_cons.mpr ⟨(in_1 (i := 109) rfl rfl), List.forall_mem_cons.mpr ⟨(in_1 (i := 111) rfl rfl), List.forall_mem_cons.mpr ⟨(in_1 (i := 113) rfl rfl), List.forall_mem_cons.mpr ⟨(in_1 (i := 115) rfl rfl), List.forall_mem_cons.mpr ⟨(in_1 (i := 117) rfl rfl), List.forall_mem_cons.mpr ⟨(in_1 (i := 119) rfl rfl), List.forall_mem_cons.mpr ⟨(in_1 (i := 121) rfl rfl), fun _ h => absurd h List.not_mem_nil⟩⟩⟩⟩⟩⟩⟩
theorem iw_8 : ∀ w ∈ u_ws RX8 TX8 5, w ∈ gtb := by
  show ∀ w ∈ [u_lay RX8 TX8 0, u_lay RX8 TX8 1, u_lay RX8 TX8 2, u_lay RX8 TX8 3, u_lay RX8 TX8 4], w ∈ gtb
  exact List.forall_mem_cons.mpr ⟨(in_1 (i := 84) rfl rfl), List.forall_mem_cons.mpr ⟨(in_1 (i := 86) rfl rfl), List.forall_mem_cons.mpr ⟨(in_1 (i := 88) rfl rfl), List.forall_mem_cons.mpr ⟨(in_1 (i := 90) rfl rfl), List.forall_mem_cons.mpr ⟨(in_1 (i := 92) rfl rfl), fun _ h => absurd h List.not_mem_nil⟩⟩⟩⟩⟩
theorem iw_9 : ∀ w ∈ u_ws RX9 TX9 3, w ∈ gtb := by
  show ∀ w ∈ [u_lay RX9 TX9 0, u_lay RX9 TX9 1, u_lay RX9 TX9 2], w ∈ gtb
  exact List.forall_mem_cons.mpr ⟨(in_1 (i := 159) rfl rfl), List.forall_mem_cons.mpr ⟨(in_1 (i := 161) rfl rfl), List.forall_mem_cons.mpr ⟨(in_1 (i := 163) rfl rfl), fun _ h => absurd h List.not_mem_nil⟩⟩⟩
theorem iw_10 : ∀ w ∈ u_ws RX10 TX10 5, w ∈ gtb := by
  show ∀ w ∈ [u_lay RX10 TX10 0, u_lay RX10 TX10 1, u_lay RX10 TX10 2, u_lay RX10 TX10 3, u_lay RX10 TX10 4], w ∈ gtb
  exact List.forall_mem_cons.mpr ⟨(in_1 (i := 57) rfl rfl), List.forall_mem_cons.mpr ⟨(in_1 (i := 59) rfl rfl), List.forall_mem_cons.mpr ⟨(in_1 (i := 61) rfl rfl), List.forall_mem_cons.mpr ⟨(in_1 (i := 63) rfl rfl), List.forall_mem_cons.mpr ⟨(in_1 (i := 65) rfl rfl), fun _ h => absurd h List.not_mem_nil⟩⟩⟩⟩⟩
theorem iw_11 : ∀ w ∈ u_ws RX11 TX11 10, w ∈ gtb := by
  show ∀ w ∈ [u_lay RX11 TX11 0, u_lay RX11 TX11 1, u_lay RX11 TX11 2, u_lay RX11 TX11 3, u_lay RX11 TX11 4, u_lay RX11 TX11 5, u_lay RX11 TX11 6, u_lay RX11 TX11 7, u_lay RX11 TX11 8, u_lay RX11 TX11 9], w ∈ gtb
  exact List.forall_mem_cons.mpr ⟨(in_2 (i := 41) rfl rfl), List.forall_mem_cons.mpr ⟨(in_2 (i := 43) rfl rfl), List.forall_mem_cons.mpr ⟨(in_2 (i := 45) rfl rfl), List.forall_mem_cons.mpr ⟨(in_2 (i := 47) rfl rfl), List.forall_mem_cons.mpr ⟨(in_2 (i := 49) rfl rfl), List.forall_mem_cons.mpr ⟨(in_2 (i := 51) rfl rfl), List.forall_mem_cons.mpr ⟨(in_2 (i := 53) rfl rfl), List.forall_mem_cons.mpr ⟨(in_2 (i := 55) rfl rfl), List.forall_mem_cons.mpr ⟨(in_2 (i := 57) rfl rfl), List.forall_mem_cons.mpr ⟨(in_2 (i := 59) rfl rfl), fun _ h => absurd h List.not_mem_nil⟩⟩⟩⟩⟩⟩⟩⟩⟩⟩
theorem iw_12 : ∀ w ∈ u_ws RX12 TX12 28, w ∈ gtb := by
  show ∀ w ∈ [u_lay RX12 TX12 0, u_lay RX12 TX12 1, u_lay RX12 TX12 2, u_lay RX12 TX12 3, u_lay RX12 TX12 4, u_lay RX12 TX12 5, u_lay RX12 TX12 6, u_lay RX12 TX12 7, u_lay RX12 TX12 8, u_lay RX12 TX12 9, u_lay RX12 TX12 10, u_lay RX12 TX12 11, u_lay RX12 TX12 12, u_lay RX12 TX12 13, u_lay RX12 TX12 14, u_lay RX12 TX12 15, u_lay RX12 TX12 16, u_lay RX12 TX12 17, u_lay RX12 TX12 18, u_lay RX12 TX12 19, u_lay RX12 TX12 20, u_lay RX12 TX12 21, u_lay RX12 TX12 22, u_lay RX12 TX12 23, u_lay RX12 TX12 24, u_lay RX12 TX12 25, u_lay RX12 TX12 26, u_lay RX12 TX12 27], w ∈ gtb
  exact List.forall_mem_cons.mpr ⟨(in_4 (i := 216) rfl rfl), List.forall_mem_cons.mpr ⟨(in_4 (i := 218) rfl rfl), List.forall_mem_cons.mpr ⟨(in_4 (i := 220) rfl rfl), List.forall_mem_cons.mpr ⟨(in_4 (i := 222) rfl rfl), List.forall_mem_cons.mpr ⟨(in_4 (i := 224) rfl rfl), List.forall_mem_cons.mpr ⟨(in_4 (i := 226) rfl rfl), List.forall_mem_cons.mpr ⟨(in_4 (i := 228) rfl rfl), List.forall_mem_cons.mpr ⟨(in_4 (i := 230) rfl rfl), List.forall_mem_cons.mpr ⟨(in_4 (i := 232) rfl rfl), List.forall_mem_cons.mpr ⟨(in_4 (i := 234) rfl rfl), List.forall_mem_cons.mpr ⟨(in_4 (i := 236) rfl rfl), List.forall_mem_cons.mpr ⟨(in_4 (i := 238) rfl rfl), List.forall_mem_cons.mpr ⟨(in_5 (i := 0) rfl rfl), List.forall_mem_cons.mpr ⟨(in_5 (i := 2) rfl rfl), List.forall_mem_cons.mpr ⟨(in_5 (i := 4) rfl rfl), List.forall_mem_cons.mpr ⟨(in_5 (i := 6) rfl rfl), List.forall_mem_cons.mpr ⟨(in_5 (i := 8) rfl rfl), List.forall_mem_cons.mpr ⟨(in_5 (i := 10) rfl rfl), List.forall_mem_cons.mpr ⟨(in_5 (i := 12) rfl rfl), List.forall_mem_cons.mpr ⟨(in_5 (i := 14) rfl rfl), List.forall_mem_cons.mpr ⟨(in_5 (i := 16) rfl rfl), List.forall_mem_cons.mpr ⟨(in_5 (i := 18) rfl rfl), List.forall_mem_cons.mpr ⟨(in_5 (i := 20) rfl rfl), List.forall_mem_cons.mpr ⟨(in_5 (i := 22) rfl rfl), List.forall_mem_cons.mpr ⟨(in_5 (i := 24) rfl rfl), List.forall_mem_cons.mpr ⟨(in_5 (i := 26) rfl rfl), List.forall_mem_cons.mpr ⟨(in_5 (i := 28) rfl rfl), List.forall_mem_cons.mpr ⟨(in_5 (i := 30) rfl rfl), fun _ h => absurd h List.not_mem_nil⟩⟩⟩⟩⟩⟩⟩⟩⟩⟩⟩⟩⟩⟩⟩⟩⟩⟩⟩⟩⟩⟩⟩⟩⟩⟩⟩⟩
theorem v_X1_91 : MN RX1 91 yX11_bit "PavedYards" cX11_bit 1 (some .int) 1 := ⟨by decide +kernel, (in_2 (i := 118) rfl rfl), (in_1 (i := 1) rfl rfl), (in_2 (i := 119) rfl rfl), ⟨by decide +kernel, by decide +kernel, by decide +kernel⟩⟩
theorem v_X10_56 : MN RX10 56 yX11_bit "PavedYards" cX11_bit 1 (some .int) 1 := ⟨by decide +kernel, (in_2 (i := 118) rfl rfl), (in_1 (i := 1) rfl rfl), (in_2 (i := 119) rfl rfl), ⟨by decide +kernel, by decide +kernel, by decide +kernel⟩⟩
theorem v_X2_52 : MN RX2 52 yX11_bit "PavedYards" cX11_bit 1 (some .int) 1 := ⟨by decide +kernel, (in_2 (i := 118) rfl rfl), (in_1 (i := 1) rfl rfl), (in_2 (i := 119) rfl rfl), ⟨by decide +kernel, by decide +kernel, by decide +kernel⟩⟩
theorem v_X6_32 : MN RX6 32 yX11_bit "PavedYards" cX11_bit 1 (some .int) 1 := ⟨by decide +kernel, (in_2 (i := 118) rfl rfl), (in_1 (i := 1) rfl rfl), (in_2 (i := 119) rfl rfl), ⟨by decide +kernel, by decide +kernel, by decide +kernel⟩⟩
theorem v_X7_146 : MN RX7 146 yX11_bit "PavedYards" cX11_bit 1 (some .int) 1 := ⟨by decide +kernel, (in_2 (i := 118) rfl rfl), (in_1 (i := 1) rfl rfl), (in_2 (i := 119) rfl rfl), ⟨by decide +kernel, by decide +kernel, by decide +kernel⟩⟩
theorem v_X0_18 : MS RX0 18 yJ7_fill_d0a16 cJ7_fill_d0a16 5 none 2 := ⟨(in_4 (i := 100) rfl rfl), (in_3 (i := 18) rfl rfl), (in_1 (i := 14) rfl rfl), (in_3 (i := 19) rfl rfl), ⟨by decide +kernel, by decide +kernel, by decide +kernel⟩⟩
theorem v_X1_25 : MS RX1 25 yJ7_fill_53178 cJ7_fill_53178 4 none 2 := ⟨(in_4 (i := 11) rfl rfl), (in_2 (i := 75) rfl rfl), (in_1 (i := 14) rfl rfl), (in_2 (i := 76) rfl rfl), ⟨by decide +kernel, by decide +kernel, by decide +kernel⟩⟩
theorem v_X1_51 : MS RX1 51 yX1_stepFrom cX1_stepFrom 5 (some .int) 5 := ⟨(in_4 (i := 15) rfl rfl), (in_4 (i := 16) rfl rfl), (in_1 (i := 9) rfl rfl), (in_4 (i := 17) rfl rfl), ⟨by decide +kernel, by decide +kernel, by decide +kernel⟩⟩
theorem v_X1_55 : MS RX1 55 yX1_cornerBeside cX1_cornerBeside 2 (some .int) 2 := ⟨(in_4 (i := 28) rfl rfl), (in_4 (i := 29) rfl rfl), (in_1 (i := 9) rfl rfl), (in_4 (i := 30) rfl rfl), ⟨by decide +kernel, by decide +kernel, by decide +kernel⟩⟩
theorem v_X1_59 : MS RX1 59 yX1_stepEast cX1_stepEast 4 (some .int) 4 := ⟨(in_4 (i := 18) rfl rfl), (in_4 (i := 19) rfl rfl), (in_1 (i := 9) rfl rfl), (in_4 (i := 20) rfl rfl), ⟨by decide +kernel, by decide +kernel, by decide +kernel⟩⟩
theorem v_X1_63 : MS RX1 63 yX1_stepSouth cX1_stepSouth 4 (some .int) 4 := ⟨(in_4 (i := 25) rfl rfl), (in_4 (i := 26) rfl rfl), (in_1 (i := 9) rfl rfl), (in_4 (i := 27) rfl rfl), ⟨by decide +kernel, by decide +kernel, by decide +kernel⟩⟩
theorem v_X1_69 : MS RX1 69 yX1_canGoBetween cX1_canGoBetween 3 (some .boolean) 3 := ⟨(in_4 (i := 22) rfl rfl), (in_4 (i := 23) rfl rfl), (in_1 (i := 9) rfl rfl), (in_4 (i := 24) rfl rfl), ⟨by decide +kernel, by decide +kernel, by decide +kernel⟩⟩
theorem v_X10_29 : MS RX10 29 yJ7_fill_53178 cJ7_fill_53178 4 none 2 := ⟨(in_2 (i := 74) rfl rfl), (in_2 (i := 75) rfl rfl), (in_1 (i := 14) rfl rfl), (in_2 (i := 76) rfl rfl), ⟨by decide +kernel, by decide +kernel, by decide +kernel⟩⟩
theorem v_X11_134 : MS RX11 134 yX11_isSheet cX11_isSheet 1 (some .boolean) 1 := ⟨(in_2 (i := 163) rfl rfl), (in_2 (i := 164) rfl rfl), (in_1 (i := 1) rfl rfl), (in_2 (i := 165) rfl rfl), ⟨by decide +kernel, by decide +kernel, by decide +kernel⟩⟩
theorem v_X11_194 : MS RX11 194 yX11_isSlot cX11_isSlot 1 (some .boolean) 1 := ⟨(in_3 (i := 44) rfl rfl), (in_3 (i := 45) rfl rfl), (in_1 (i := 1) rfl rfl), (in_3 (i := 46) rfl rfl), ⟨by decide +kernel, by decide +kernel, by decide +kernel⟩⟩
theorem v_X11_315 : MS RX11 315 yX11_isLane cX11_isLane 1 (some .boolean) 1 := ⟨(in_4 (i := 144) rfl rfl), (in_4 (i := 145) rfl rfl), (in_1 (i := 1) rfl rfl), (in_4 (i := 146) rfl rfl), ⟨by decide +kernel, by decide +kernel, by decide +kernel⟩⟩
theorem v_X11_95 : MS RX11 95 yX11_bit cX11_bit 1 (some .int) 1 := ⟨(in_2 (i := 117) rfl rfl), (in_2 (i := 118) rfl rfl), (in_1 (i := 1) rfl rfl), (in_2 (i := 119) rfl rfl), ⟨by decide +kernel, by decide +kernel, by decide +kernel⟩⟩
theorem v_X12_100 : MS RX12 100 yX12_in cX12_in 6 (some .boolean) 3 := ⟨(in_5 (i := 38) rfl rfl), (in_5 (i := 39) rfl rfl), (in_1 (i := 13) rfl rfl), (in_5 (i := 40) rfl rfl), ⟨by decide +kernel, by decide +kernel, by decide +kernel⟩⟩
theorem v_X12_104 : MS RX12 104 yX12_isDark cX12_isDark 2 (some .boolean) 2 := ⟨(in_5 (i := 96) rfl rfl), (in_5 (i := 97) rfl rfl), (in_1 (i := 13) rfl rfl), (in_5 (i := 98) rfl rfl), ⟨by decide +kernel, by decide +kernel, by decide +kernel⟩⟩
theorem v_X12_143 : MS RX12 143 yX12_isSheet cX12_isSheet 1 (some .boolean) 1 := ⟨(in_5 (i := 80) rfl rfl), (in_5 (i := 81) rfl rfl), (in_1 (i := 13) rfl rfl), (in_5 (i := 82) rfl rfl), ⟨by decide +kernel, by decide +kernel, by decide +kernel⟩⟩
theorem v_X12_188 : MS RX12 188 yX12_isSlot cX12_isSlot 1 (some .boolean) 1 := ⟨(in_5 (i := 159) rfl rfl), (in_5 (i := 160) rfl rfl), (in_1 (i := 13) rfl rfl), (in_5 (i := 161) rfl rfl), ⟨by decide +kernel, by decide +kernel, by decide +kernel⟩⟩
theorem v_X12_283 : MS RX12 283 yX12_isLane cX12_isLane 1 (some .boolean) 1 := ⟨(in_6 (i := 121) rfl rfl), (in_6 (i := 122) rfl rfl), (in_1 (i := 13) rfl rfl), (in_6 (i := 123) rfl rfl), ⟨by decide +kernel, by decide +kernel, by decide +kernel⟩⟩
theorem v_X2_28 : MS RX2 28 yJ7_fill_53178 cJ7_fill_53178 4 none 2 := ⟨(in_3 (i := 165) rfl rfl), (in_2 (i := 75) rfl rfl), (in_1 (i := 14) rfl rfl), (in_2 (i := 76) rfl rfl), ⟨by decide +kernel, by decide +kernel, by decide +kernel⟩⟩
theorem v_X4_18 : MS RX4 18 yJ7_fill_53178 cJ7_fill_53178 4 none 2 := ⟨(in_4 (i := 114) rfl rfl), (in_2 (i := 75) rfl rfl), (in_1 (i := 14) rfl rfl), (in_2 (i := 76) rfl rfl), ⟨by decide +kernel, by decide +kernel, by decide +kernel⟩⟩
theorem v_X4_43 : MS RX4 43 yX4_otherEnd cX4_otherEnd 3 (some .int) 3 := ⟨(in_4 (i := 120) rfl rfl), (in_4 (i := 121) rfl rfl), (in_1 (i := 10) rfl rfl), (in_4 (i := 122) rfl rfl), ⟨by decide +kernel, by decide +kernel, by decide +kernel⟩⟩
theorem v_X5_60 : MS RX5 60 yX5_isClosed cX5_isClosed 3 (some .boolean) 3 := ⟨(in_3 (i := 227) rfl rfl), (in_3 (i := 228) rfl rfl), (in_1 (i := 8) rfl rfl), (in_3 (i := 229) rfl rfl), ⟨by decide +kernel, by decide +kernel, by decide +kernel⟩⟩
theorem v_X6_26 : MS RX6 26 yJ7_fill_53178 cJ7_fill_53178 4 none 2 := ⟨(in_4 (i := 151) rfl rfl), (in_2 (i := 75) rfl rfl), (in_1 (i := 14) rfl rfl), (in_2 (i := 76) rfl rfl), ⟨by decide +kernel, by decide +kernel, by decide +kernel⟩⟩
theorem v_X7_114 : MS RX7 114 yX7_isBare cX7_isBare 3 (some .boolean) 3 := ⟨(in_3 (i := 24) rfl rfl), (in_3 (i := 25) rfl rfl), (in_1 (i := 4) rfl rfl), (in_3 (i := 26) rfl rfl), ⟨by decide +kernel, by decide +kernel, by decide +kernel⟩⟩
theorem v_X7_125 : MS RX7 125 yX7_maskBehind cX7_maskBehind 4 (some .int) 4 := ⟨(in_3 (i := 60) rfl rfl), (in_3 (i := 61) rfl rfl), (in_1 (i := 4) rfl rfl), (in_3 (i := 62) rfl rfl), ⟨by decide +kernel, by decide +kernel, by decide +kernel⟩⟩
theorem v_X7_137 : MS RX7 137 yJ7_fill_d0a16 cJ7_fill_d0a16 5 none 2 := ⟨(in_3 (i := 17) rfl rfl), (in_3 (i := 18) rfl rfl), (in_1 (i := 14) rfl rfl), (in_3 (i := 19) rfl rfl), ⟨by decide +kernel, by decide +kernel, by decide +kernel⟩⟩
theorem v_X8_21 : MS RX8 21 yX8_byteAt cX8_byteAt 3 (some .int) 2 := ⟨(in_2 (i := 128) rfl rfl), (in_2 (i := 129) rfl rfl), (in_1 (i := 3) rfl rfl), (in_2 (i := 130) rfl rfl), ⟨by decide +kernel, by decide +kernel, by decide +kernel⟩⟩
theorem v_X0_33 : MV RX0 33 yX0_pass cX0_pass 11 none 3 0 := ⟨(in_4 (i := 101) rfl rfl), (in_4 (i := 102) rfl rfl), (in_4 (i := 103) rfl rfl), (in_1 (i := 5) rfl rfl), (in_4 (i := 104) rfl rfl), ⟨by decide +kernel, by decide +kernel, by decide +kernel⟩, _, _, rfl⟩
theorem v_X0_37 : MV RX0 37 yX10_openAt cX10_openAt 4 (some .int) 2 10 := ⟨(in_4 (i := 105) rfl rfl), (in_2 (i := 195) rfl rfl), (in_2 (i := 196) rfl rfl), (in_1 (i := 2) rfl rfl), (in_2 (i := 197) rfl rfl), ⟨by decide +kernel, by decide +kernel, by decide +kernel⟩, _, _, rfl⟩
theorem v_X1_31 : MV RX1 31 yX9_clear cX9_clear 2 none 0 9 := ⟨(in_4 (i := 12) rfl rfl), (in_3 (i := 173) rfl rfl), (in_3 (i := 174) rfl rfl), (in_1 (i := 7) rfl rfl), (in_3 (i := 175) rfl rfl), ⟨by decide +kernel, by decide +kernel, by decide +kernel⟩, _, _, rfl⟩
theorem v_X1_38 : MV RX1 38 yX10_isCorner cX10_isCorner 3 (some .boolean) 2 10 := ⟨(in_4 (i := 13) rfl rfl), (in_4 (i := 0) rfl rfl), (in_4 (i := 1) rfl rfl), (in_1 (i := 2) rfl rfl), (in_4 (i := 2) rfl rfl), ⟨by decide +kernel, by decide +kernel, by decide +kernel⟩, _, _, rfl⟩
theorem v_X1_44 : MV RX1 44 yX9_reach cX9_reach 2 (some .boolean) 1 9 := ⟨(in_4 (i := 14) rfl rfl), (in_3 (i := 177) rfl rfl), (in_3 (i := 178) rfl rfl), (in_1 (i := 7) rfl rfl), (in_3 (i := 179) rfl rfl), ⟨by decide +kernel, by decide +kernel, by decide +kernel⟩, _, _, rfl⟩
theorem v_X1_66 : MV RX1 66 yX10_openAt cX10_openAt 4 (some .int) 2 10 := ⟨(in_4 (i := 21) rfl rfl), (in_2 (i := 195) rfl rfl), (in_2 (i := 196) rfl rfl), (in_1 (i := 2) rfl rfl), (in_2 (i := 197) rfl rfl), ⟨by decide +kernel, by decide +kernel, by decide +kernel⟩, _, _, rfl⟩
theorem v_X1_78 : MV RX1 78 yX3_put cX3_put 4 none 2 3 := ⟨(in_4 (i := 43) rfl rfl), (in_3 (i := 56) rfl rfl), (in_3 (i := 57) rfl rfl), (in_1 (i := 11) rfl rfl), (in_3 (i := 58) rfl rfl), ⟨by decide +kernel, by decide +kernel, by decide +kernel⟩, _, _, rfl⟩
theorem v_X1_88 : MV RX1 88 yX1_wayOfTurn cX1_wayOfTurn 10 (some .int) 4 1 := ⟨(in_4 (i := 52) rfl rfl), (in_4 (i := 36) rfl rfl), (in_4 (i := 37) rfl rfl), (in_1 (i := 9) rfl rfl), (in_4 (i := 38) rfl rfl), ⟨by decide +kernel, by decide +kernel, by decide +kernel⟩, _, _, rfl⟩
theorem v_X1_95 : MV RX1 95 yX1_makeTurn cX1_makeTurn 8 none 4 1 := ⟨(in_4 (i := 62) rfl rfl), (in_4 (i := 40) rfl rfl), (in_4 (i := 41) rfl rfl), (in_1 (i := 9) rfl rfl), (in_4 (i := 42) rfl rfl), ⟨by decide +kernel, by decide +kernel, by decide +kernel⟩, _, _, rfl⟩
theorem v_X1_99 : MV RX1 99 yX1_measure cX1_measure 9 none 3 1 := ⟨(in_4 (i := 71) rfl rfl), (in_4 (i := 8) rfl rfl), (in_4 (i := 9) rfl rfl), (in_1 (i := 9) rfl rfl), (in_4 (i := 10) rfl rfl), ⟨by decide +kernel, by decide +kernel, by decide +kernel⟩, _, _, rfl⟩
theorem v_X10_35 : MV RX10 35 yX10_brickOn cX10_brickOn 3 (some .int) 2 10 := ⟨(in_2 (i := 105) rfl rfl), (in_2 (i := 106) rfl rfl), (in_2 (i := 107) rfl rfl), (in_1 (i := 2) rfl rfl), (in_2 (i := 108) rfl rfl), ⟨by decide +kernel, by decide +kernel, by decide +kernel⟩, _, _, rfl⟩
theorem v_X10_39 : MV RX10 39 yX10_row cX10_row 2 (some .int) 1 10 := ⟨(in_2 (i := 109) rfl rfl), (in_2 (i := 110) rfl rfl), (in_2 (i := 111) rfl rfl), (in_1 (i := 2) rfl rfl), (in_2 (i := 112) rfl rfl), ⟨by decide +kernel, by decide +kernel, by decide +kernel⟩, _, _, rfl⟩
theorem v_X10_43 : MV RX10 43 yX10_column cX10_column 2 (some .int) 1 10 := ⟨(in_2 (i := 113) rfl rfl), (in_2 (i := 114) rfl rfl), (in_2 (i := 115) rfl rfl), (in_1 (i := 2) rfl rfl), (in_2 (i := 116) rfl rfl), ⟨by decide +kernel, by decide +kernel, by decide +kernel⟩, _, _, rfl⟩
theorem v_X10_46 : MV RX10 46 yX10_isCell cX10_isCell 2 (some .boolean) 1 10 := ⟨(in_3 (i := 88) rfl rfl), (in_2 (i := 94) rfl rfl), (in_2 (i := 95) rfl rfl), (in_1 (i := 2) rfl rfl), (in_2 (i := 96) rfl rfl), ⟨by decide +kernel, by decide +kernel, by decide +kernel⟩, _, _, rfl⟩
theorem v_X10_50 : MV RX10 50 yX10_openAt cX10_openAt 4 (some .int) 2 10 := ⟨(in_2 (i := 194) rfl rfl), (in_2 (i := 195) rfl rfl), (in_2 (i := 196) rfl rfl), (in_1 (i := 2) rfl rfl), (in_2 (i := 197) rfl rfl), ⟨by decide +kernel, by decide +kernel, by decide +kernel⟩, _, _, rfl⟩
theorem v_X10_53 : MV RX10 53 yX10_secondCell cX10_secondCell 4 (some .int) 1 10 := ⟨(in_2 (i := 190) rfl rfl), (in_2 (i := 191) rfl rfl), (in_2 (i := 192) rfl rfl), (in_1 (i := 2) rfl rfl), (in_2 (i := 193) rfl rfl), ⟨by decide +kernel, by decide +kernel, by decide +kernel⟩, _, _, rfl⟩
theorem v_X10_60 : MV RX10 60 yX10_isDark cX10_isDark 2 (some .boolean) 1 10 := ⟨(in_2 (i := 178) rfl rfl), (in_2 (i := 179) rfl rfl), (in_2 (i := 180) rfl rfl), (in_1 (i := 2) rfl rfl), (in_2 (i := 181) rfl rfl), ⟨by decide +kernel, by decide +kernel, by decide +kernel⟩, _, _, rfl⟩
theorem v_X10_63 : MV RX10 63 yX10_stands cX10_stands 2 (some .boolean) 1 10 := ⟨(in_2 (i := 186) rfl rfl), (in_2 (i := 187) rfl rfl), (in_2 (i := 188) rfl rfl), (in_1 (i := 2) rfl rfl), (in_2 (i := 189) rfl rfl), ⟨by decide +kernel, by decide +kernel, by decide +kernel⟩, _, _, rfl⟩
theorem v_X11_107 : MV RX11 107 yX8_append cX8_append 5 (some .int) 2 8 := ⟨(in_2 (i := 132) rfl rfl), (in_2 (i := 133) rfl rfl), (in_2 (i := 134) rfl rfl), (in_1 (i := 3) rfl rfl), (in_2 (i := 135) rfl rfl), ⟨by decide +kernel, by decide +kernel, by decide +kernel⟩, _, _, rfl⟩
theorem v_X11_111 : MV RX11 111 yX8_parse cX8_parse 5 (some .int) 0 8 := ⟨(in_2 (i := 140) rfl rfl), (in_2 (i := 141) rfl rfl), (in_2 (i := 142) rfl rfl), (in_1 (i := 3) rfl rfl), (in_2 (i := 143) rfl rfl), ⟨by decide +kernel, by decide +kernel, by decide +kernel⟩, _, _, rfl⟩
theorem v_X11_120 : MV RX11 120 yX10_column cX10_column 2 (some .int) 1 10 := ⟨(in_2 (i := 148) rfl rfl), (in_2 (i := 114) rfl rfl), (in_2 (i := 115) rfl rfl), (in_1 (i := 2) rfl rfl), (in_2 (i := 116) rfl rfl), ⟨by decide +kernel, by decide +kernel, by decide +kernel⟩, _, _, rfl⟩
theorem v_X11_124 : MV RX11 124 yX10_row cX10_row 2 (some .int) 1 10 := ⟨(in_2 (i := 149) rfl rfl), (in_2 (i := 110) rfl rfl), (in_2 (i := 111) rfl rfl), (in_1 (i := 2) rfl rfl), (in_2 (i := 112) rfl rfl), ⟨by decide +kernel, by decide +kernel, by decide +kernel⟩, _, _, rfl⟩
theorem v_X11_127 : MV RX11 127 yX8_isOpenAt cX8_isOpenAt 3 (some .boolean) 2 8 := ⟨(in_2 (i := 150) rfl rfl), (in_2 (i := 151) rfl rfl), (in_2 (i := 152) rfl rfl), (in_1 (i := 3) rfl rfl), (in_2 (i := 153) rfl rfl), ⟨by decide +kernel, by decide +kernel, by decide +kernel⟩, _, _, rfl⟩
theorem v_X11_131 : MV RX11 131 yX10_openCells cX10_openCells 3 (some .int) 0 10 := ⟨(in_2 (i := 154) rfl rfl), (in_2 (i := 155) rfl rfl), (in_2 (i := 156) rfl rfl), (in_1 (i := 2) rfl rfl), (in_2 (i := 157) rfl rfl), ⟨by decide +kernel, by decide +kernel, by decide +kernel⟩, _, _, rfl⟩
theorem v_X11_137 : MV RX11 137 yX11_sheetFault cX11_sheetFault 3 (some .int) 2 11 := ⟨(in_2 (i := 166) rfl rfl), (in_2 (i := 168) rfl rfl), (in_0 (i := 3) rfl rfl), (in_1 (i := 1) rfl rfl), (in_2 (i := 169) rfl rfl), ⟨by decide +kernel, by decide +kernel, by decide +kernel⟩, _, _, rfl⟩
theorem v_X11_152 : MV RX11 152 yX10_darkCells cX10_darkCells 3 (some .int) 0 10 := ⟨(in_2 (i := 174) rfl rfl), (in_2 (i := 175) rfl rfl), (in_2 (i := 176) rfl rfl), (in_1 (i := 2) rfl rfl), (in_2 (i := 177) rfl rfl), ⟨by decide +kernel, by decide +kernel, by decide +kernel⟩, _, _, rfl⟩
theorem v_X11_155 : MV RX11 155 yX10_standingBricks cX10_standingBricks 3 (some .int) 0 10 := ⟨(in_2 (i := 182) rfl rfl), (in_2 (i := 183) rfl rfl), (in_2 (i := 184) rfl rfl), (in_1 (i := 2) rfl rfl), (in_2 (i := 185) rfl rfl), ⟨by decide +kernel, by decide +kernel, by decide +kernel⟩, _, _, rfl⟩
theorem v_X11_158 : MV RX11 158 yX10_wantedBricks cX10_wantedBricks 4 (some .int) 1 10 := ⟨(in_2 (i := 198) rfl rfl), (in_2 (i := 199) rfl rfl), (in_2 (i := 200) rfl rfl), (in_1 (i := 2) rfl rfl), (in_2 (i := 201) rfl rfl), ⟨by decide +kernel, by decide +kernel, by decide +kernel⟩, _, _, rfl⟩
theorem v_X11_161 : MV RX11 161 yX11_heldSlots cX11_heldSlots 3 (some .int) 0 11 := ⟨(in_2 (i := 202) rfl rfl), (in_2 (i := 204) rfl rfl), (in_0 (i := 4) rfl rfl), (in_1 (i := 1) rfl rfl), (in_2 (i := 205) rfl rfl), ⟨by decide +kernel, by decide +kernel, by decide +kernel⟩, _, _, rfl⟩
theorem v_X11_164 : MV RX11 164 yX10_stands cX10_stands 2 (some .boolean) 1 10 := ⟨(in_2 (i := 210) rfl rfl), (in_2 (i := 187) rfl rfl), (in_2 (i := 188) rfl rfl), (in_1 (i := 2) rfl rfl), (in_2 (i := 189) rfl rfl), ⟨by decide +kernel, by decide +kernel, by decide +kernel⟩, _, _, rfl⟩
theorem v_X11_170 : MV RX11 170 yX7_forget cX7_forget 1 none 0 7 := ⟨(in_2 (i := 81) rfl rfl), (in_2 (i := 82) rfl rfl), (in_2 (i := 83) rfl rfl), (in_1 (i := 4) rfl rfl), (in_2 (i := 84) rfl rfl), ⟨by decide +kernel, by decide +kernel, by decide +kernel⟩, _, _, rfl⟩
theorem v_X11_176 : MV RX11 176 yX7_total cX7_total 2 (some .long) 1 7 := ⟨(in_2 (i := 219) rfl rfl), (in_2 (i := 220) rfl rfl), (in_2 (i := 221) rfl rfl), (in_1 (i := 4) rfl rfl), (in_2 (i := 222) rfl rfl), ⟨by decide +kernel, by decide +kernel, by decide +kernel⟩, _, _, rfl⟩
theorem v_X11_182 : MV RX11 182 yX7_fillShares cX7_fillShares 4 none 1 7 := ⟨(in_3 (i := 13) rfl rfl), (in_3 (i := 14) rfl rfl), (in_3 (i := 15) rfl rfl), (in_1 (i := 4) rfl rfl), (in_3 (i := 16) rfl rfl), ⟨by decide +kernel, by decide +kernel, by decide +kernel⟩, _, _, rfl⟩
theorem v_X11_190 : MV RX11 190 yX7_bricksWithShare cX7_bricksWithShare 6 (some .int) 2 7 := ⟨(in_3 (i := 35) rfl rfl), (in_3 (i := 36) rfl rfl), (in_3 (i := 37) rfl rfl), (in_1 (i := 4) rfl rfl), (in_3 (i := 38) rfl rfl), ⟨by decide +kernel, by decide +kernel, by decide +kernel⟩, _, _, rfl⟩
theorem v_X11_197 : MV RX11 197 yX7_layByRank cX7_layByRank 12 none 3 7 := ⟨(in_3 (i := 47) rfl rfl), (in_3 (i := 48) rfl rfl), (in_3 (i := 49) rfl rfl), (in_1 (i := 4) rfl rfl), (in_3 (i := 50) rfl rfl), ⟨by decide +kernel, by decide +kernel, by decide +kernel⟩, _, _, rfl⟩
theorem v_X11_201 : MV RX11 201 yX11_slotFault cX11_slotFault 2 (some .int) 1 11 := ⟨(in_3 (i := 67) rfl rfl), (in_3 (i := 69) rfl rfl), (in_0 (i := 5) rfl rfl), (in_1 (i := 1) rfl rfl), (in_3 (i := 70) rfl rfl), ⟨by decide +kernel, by decide +kernel, by decide +kernel⟩, _, _, rfl⟩
theorem v_X11_204 : MV RX11 204 yX7_rankOf cX7_rankOf 9 (some .long) 2 7 := ⟨(in_3 (i := 75) rfl rfl), (in_3 (i := 76) rfl rfl), (in_3 (i := 77) rfl rfl), (in_1 (i := 4) rfl rfl), (in_3 (i := 78) rfl rfl), ⟨by decide +kernel, by decide +kernel, by decide +kernel⟩, _, _, rfl⟩
theorem v_X11_208 : MV RX11 208 yX10_isOpen cX10_isOpen 2 (some .boolean) 1 10 := ⟨(in_3 (i := 84) rfl rfl), (in_3 (i := 85) rfl rfl), (in_3 (i := 86) rfl rfl), (in_1 (i := 2) rfl rfl), (in_3 (i := 87) rfl rfl), ⟨by decide +kernel, by decide +kernel, by decide +kernel⟩, _, _, rfl⟩
theorem v_X11_218 : MV RX11 218 yX7_leastCost cX7_leastCost 2 (some .long) 1 7 := ⟨(in_3 (i := 93) rfl rfl), (in_3 (i := 94) rfl rfl), (in_3 (i := 95) rfl rfl), (in_1 (i := 4) rfl rfl), (in_3 (i := 96) rfl rfl), ⟨by decide +kernel, by decide +kernel, by decide +kernel⟩, _, _, rfl⟩
theorem v_X11_223 : MV RX11 223 yX7_layCheapest cX7_layCheapest 6 none 2 7 := ⟨(in_3 (i := 118) rfl rfl), (in_3 (i := 119) rfl rfl), (in_3 (i := 120) rfl rfl), (in_1 (i := 4) rfl rfl), (in_3 (i := 121) rfl rfl), ⟨by decide +kernel, by decide +kernel, by decide +kernel⟩, _, _, rfl⟩
theorem v_X11_227 : MV RX11 227 yX3_sumOfPrices cX3_sumOfPrices 4 (some .int) 1 3 := ⟨(in_3 (i := 126) rfl rfl), (in_3 (i := 127) rfl rfl), (in_3 (i := 128) rfl rfl), (in_1 (i := 11) rfl rfl), (in_3 (i := 129) rfl rfl), ⟨by decide +kernel, by decide +kernel, by decide +kernel⟩, _, _, rfl⟩
theorem v_X11_231 : MV RX11 231 yX3_take cX3_take 2 none 1 3 := ⟨(in_3 (i := 139) rfl rfl), (in_3 (i := 140) rfl rfl), (in_3 (i := 141) rfl rfl), (in_1 (i := 11) rfl rfl), (in_3 (i := 142) rfl rfl), ⟨by decide +kernel, by decide +kernel, by decide +kernel⟩, _, _, rfl⟩
theorem v_X11_235 : MV RX11 235 yX3_takeBricks cX3_takeBricks 9 (some .boolean) 2 3 := ⟨(in_3 (i := 150) rfl rfl), (in_3 (i := 151) rfl rfl), (in_3 (i := 152) rfl rfl), (in_1 (i := 11) rfl rfl), (in_3 (i := 153) rfl rfl), ⟨by decide +kernel, by decide +kernel, by decide +kernel⟩, _, _, rfl⟩
theorem v_X11_239 : MV RX11 239 yX2_find cX2_find 4 (some .int) 1 2 := ⟨(in_3 (i := 161) rfl rfl), (in_3 (i := 162) rfl rfl), (in_3 (i := 163) rfl rfl), (in_1 (i := 6) rfl rfl), (in_3 (i := 164) rfl rfl), ⟨by decide +kernel, by decide +kernel, by decide +kernel⟩, _, _, rfl⟩
theorem v_X11_242 : MV RX11 242 yX2_markBar cX2_markBar 7 none 2 2 := ⟨(in_3 (i := 193) rfl rfl), (in_3 (i := 194) rfl rfl), (in_3 (i := 195) rfl rfl), (in_1 (i := 6) rfl rfl), (in_3 (i := 196) rfl rfl), ⟨by decide +kernel, by decide +kernel, by decide +kernel⟩, _, _, rfl⟩
theorem v_X11_246 : MV RX11 246 yX2_marked cX2_marked 5 (some .int) 2 2 := ⟨(in_3 (i := 198) rfl rfl), (in_3 (i := 199) rfl rfl), (in_3 (i := 200) rfl rfl), (in_1 (i := 6) rfl rfl), (in_3 (i := 201) rfl rfl), ⟨by decide +kernel, by decide +kernel, by decide +kernel⟩, _, _, rfl⟩
theorem v_X11_253 : MV RX11 253 yX5_isWhole cX5_isWhole 2 (some .boolean) 1 5 := ⟨(in_3 (i := 210) rfl rfl), (in_3 (i := 211) rfl rfl), (in_3 (i := 212) rfl rfl), (in_1 (i := 8) rfl rfl), (in_3 (i := 213) rfl rfl), ⟨by decide +kernel, by decide +kernel, by decide +kernel⟩, _, _, rfl⟩
theorem v_X11_257 : MV RX11 257 yX10_isCorner cX10_isCorner 3 (some .boolean) 2 10 := ⟨(in_3 (i := 239) rfl rfl), (in_4 (i := 0) rfl rfl), (in_4 (i := 1) rfl rfl), (in_1 (i := 2) rfl rfl), (in_4 (i := 2) rfl rfl), ⟨by decide +kernel, by decide +kernel, by decide +kernel⟩, _, _, rfl⟩
theorem v_X11_260 : MV RX11 260 yX11_wholeFault cX11_wholeFault 4 (some .int) 2 11 := ⟨(in_4 (i := 3) rfl rfl), (in_4 (i := 5) rfl rfl), (in_0 (i := 7) rfl rfl), (in_1 (i := 1) rfl rfl), (in_4 (i := 6) rfl rfl), ⟨by decide +kernel, by decide +kernel, by decide +kernel⟩, _, _, rfl⟩
theorem v_X11_266 : MV RX11 266 yX1_measure cX1_measure 9 none 3 1 := ⟨(in_4 (i := 7) rfl rfl), (in_4 (i := 8) rfl rfl), (in_4 (i := 9) rfl rfl), (in_1 (i := 9) rfl rfl), (in_4 (i := 10) rfl rfl), ⟨by decide +kernel, by decide +kernel, by decide +kernel⟩, _, _, rfl⟩
theorem v_X11_270 : MV RX11 270 yX1_wayOfTurn cX1_wayOfTurn 10 (some .int) 4 1 := ⟨(in_4 (i := 35) rfl rfl), (in_4 (i := 36) rfl rfl), (in_4 (i := 37) rfl rfl), (in_1 (i := 9) rfl rfl), (in_4 (i := 38) rfl rfl), ⟨by decide +kernel, by decide +kernel, by decide +kernel⟩, _, _, rfl⟩
theorem v_X11_274 : MV RX11 274 yX1_makeTurn cX1_makeTurn 8 none 4 1 := ⟨(in_4 (i := 39) rfl rfl), (in_4 (i := 40) rfl rfl), (in_4 (i := 41) rfl rfl), (in_1 (i := 9) rfl rfl), (in_4 (i := 42) rfl rfl), ⟨by decide +kernel, by decide +kernel, by decide +kernel⟩, _, _, rfl⟩
theorem v_X11_278 : MV RX11 278 yX1_turnsOfWay cX1_turnsOfWay 7 (some .int) 3 1 := ⟨(in_4 (i := 48) rfl rfl), (in_4 (i := 49) rfl rfl), (in_4 (i := 50) rfl rfl), (in_1 (i := 9) rfl rfl), (in_4 (i := 51) rfl rfl), ⟨by decide +kernel, by decide +kernel, by decide +kernel⟩, _, _, rfl⟩
theorem v_X11_282 : MV RX11 282 yX1_turnAll cX1_turnAll 9 (some .int) 3 1 := ⟨(in_4 (i := 58) rfl rfl), (in_4 (i := 59) rfl rfl), (in_4 (i := 60) rfl rfl), (in_1 (i := 9) rfl rfl), (in_4 (i := 61) rfl rfl), ⟨by decide +kernel, by decide +kernel, by decide +kernel⟩, _, _, rfl⟩
theorem v_X11_285 : MV RX11 285 yX1_distance cX1_distance 6 (some .int) 3 1 := ⟨(in_4 (i := 67) rfl rfl), (in_4 (i := 68) rfl rfl), (in_4 (i := 69) rfl rfl), (in_1 (i := 9) rfl rfl), (in_4 (i := 70) rfl rfl), ⟨by decide +kernel, by decide +kernel, by decide +kernel⟩, _, _, rfl⟩
theorem v_X11_289 : MV RX11 289 yX1_turnToward cX1_turnToward 8 (some .int) 3 1 := ⟨(in_4 (i := 79) rfl rfl), (in_4 (i := 80) rfl rfl), (in_4 (i := 81) rfl rfl), (in_1 (i := 9) rfl rfl), (in_4 (i := 82) rfl rfl), ⟨by decide +kernel, by decide +kernel, by decide +kernel⟩, _, _, rfl⟩
theorem v_X11_292 : MV RX11 292 yX3_linesNotCrossed cX3_linesNotCrossed 4 (some .int) 1 3 := ⟨(in_4 (i := 87) rfl rfl), (in_4 (i := 88) rfl rfl), (in_4 (i := 89) rfl rfl), (in_1 (i := 11) rfl rfl), (in_4 (i := 90) rfl rfl), ⟨by decide +kernel, by decide +kernel, by decide +kernel⟩, _, _, rfl⟩
theorem v_X11_295 : MV RX11 295 yX0_countSound cX0_countSound 5 (some .long) 1 0 := ⟨(in_4 (i := 96) rfl rfl), (in_4 (i := 97) rfl rfl), (in_4 (i := 98) rfl rfl), (in_1 (i := 5) rfl rfl), (in_4 (i := 99) rfl rfl), ⟨by decide +kernel, by decide +kernel, by decide +kernel⟩, _, _, rfl⟩
theorem v_X11_298 : MV RX11 298 yX11_slotsFault cX11_slotsFault 3 (some .int) 2 11 := ⟨(in_3 (i := 71) rfl rfl), (in_3 (i := 73) rfl rfl), (in_0 (i := 6) rfl rfl), (in_1 (i := 1) rfl rfl), (in_3 (i := 74) rfl rfl), ⟨by decide +kernel, by decide +kernel, by decide +kernel⟩, _, _, rfl⟩
theorem v_X11_301 : MV RX11 301 yX4_trace cX4_trace 6 (some .int) 3 4 := ⟨(in_4 (i := 110) rfl rfl), (in_4 (i := 111) rfl rfl), (in_4 (i := 112) rfl rfl), (in_1 (i := 10) rfl rfl), (in_4 (i := 113) rfl rfl), ⟨by decide +kernel, by decide +kernel, by decide +kernel⟩, _, _, rfl⟩
theorem v_X11_304 : MV RX11 304 yX11_ringFault cX11_ringFault 5 (some .int) 3 11 := ⟨(in_4 (i := 128) rfl rfl), (in_4 (i := 130) rfl rfl), (in_0 (i := 8) rfl rfl), (in_1 (i := 1) rfl rfl), (in_4 (i := 131) rfl rfl), ⟨by decide +kernel, by decide +kernel, by decide +kernel⟩, _, _, rfl⟩
theorem v_X11_311 : MV RX11 311 yX4_takeOver cX4_takeOver 6 none 4 4 := ⟨(in_4 (i := 136) rfl rfl), (in_4 (i := 137) rfl rfl), (in_4 (i := 138) rfl rfl), (in_1 (i := 10) rfl rfl), (in_4 (i := 139) rfl rfl), ⟨by decide +kernel, by decide +kernel, by decide +kernel⟩, _, _, rfl⟩
theorem v_X11_318 : MV RX11 318 yX6_start cX6_start 3 none 2 6 := ⟨(in_4 (i := 147) rfl rfl), (in_4 (i := 148) rfl rfl), (in_4 (i := 149) rfl rfl), (in_1 (i := 12) rfl rfl), (in_4 (i := 150) rfl rfl), ⟨by decide +kernel, by decide +kernel, by decide +kernel⟩, _, _, rfl⟩
theorem v_X11_322 : MV RX11 322 yX6_put cX6_put 3 none 2 6 := ⟨(in_4 (i := 160) rfl rfl), (in_4 (i := 161) rfl rfl), (in_4 (i := 162) rfl rfl), (in_1 (i := 12) rfl rfl), (in_4 (i := 163) rfl rfl), ⟨by decide +kernel, by decide +kernel, by decide +kernel⟩, _, _, rfl⟩
theorem v_X11_328 : MV RX11 328 yX6_hasStretch cX6_hasStretch 3 (some .boolean) 2 6 := ⟨(in_4 (i := 169) rfl rfl), (in_4 (i := 170) rfl rfl), (in_4 (i := 171) rfl rfl), (in_1 (i := 12) rfl rfl), (in_4 (i := 172) rfl rfl), ⟨by decide +kernel, by decide +kernel, by decide +kernel⟩, _, _, rfl⟩
theorem v_X11_337 : MV RX11 337 yX10_start cX10_start 4 none 2 10 := ⟨(in_2 (i := 70) rfl rfl), (in_2 (i := 71) rfl rfl), (in_2 (i := 72) rfl rfl), (in_1 (i := 2) rfl rfl), (in_2 (i := 73) rfl rfl), ⟨by decide +kernel, by decide +kernel, by decide +kernel⟩, _, _, rfl⟩
theorem v_X11_338 : MV RX11 338 yX11_yardChanged cX11_yardChanged 2 none 0 11 := ⟨(in_2 (i := 77) rfl rfl), (in_2 (i := 79) rfl rfl), (in_0 (i := 1) rfl rfl), (in_1 (i := 1) rfl rfl), (in_2 (i := 80) rfl rfl), ⟨by decide +kernel, by decide +kernel, by decide +kernel⟩, _, _, rfl⟩
theorem v_X11_345 : MV RX11 345 yX10_change cX10_change 5 none 2 10 := ⟨(in_2 (i := 101) rfl rfl), (in_2 (i := 102) rfl rfl), (in_2 (i := 103) rfl rfl), (in_1 (i := 2) rfl rfl), (in_2 (i := 104) rfl rfl), ⟨by decide +kernel, by decide +kernel, by decide +kernel⟩, _, _, rfl⟩
theorem v_X11_79 : MV RX11 79 yX11_startYard cX11_startYard 3 none 2 11 := ⟨(in_2 (i := 66) rfl rfl), (in_2 (i := 68) rfl rfl), (in_0 (i := 0) rfl rfl), (in_1 (i := 1) rfl rfl), (in_2 (i := 69) rfl rfl), ⟨by decide +kernel, by decide +kernel, by decide +kernel⟩, _, _, rfl⟩
theorem v_X11_83 : MV RX11 83 yX10_cells cX10_cells 1 (some .int) 0 10 := ⟨(in_2 (i := 85) rfl rfl), (in_2 (i := 86) rfl rfl), (in_2 (i := 87) rfl rfl), (in_1 (i := 2) rfl rfl), (in_2 (i := 88) rfl rfl), ⟨by decide +kernel, by decide +kernel, by decide +kernel⟩, _, _, rfl⟩
theorem v_X11_87 : MV RX11 87 yX10_isCell cX10_isCell 2 (some .boolean) 1 10 := ⟨(in_2 (i := 93) rfl rfl), (in_2 (i := 94) rfl rfl), (in_2 (i := 95) rfl rfl), (in_1 (i := 2) rfl rfl), (in_2 (i := 96) rfl rfl), ⟨by decide +kernel, by decide +kernel, by decide +kernel⟩, _, _, rfl⟩
theorem v_X11_91 : MV RX11 91 yX11_changeCell cX11_changeCell 4 (some .boolean) 2 11 := ⟨(in_2 (i := 97) rfl rfl), (in_2 (i := 99) rfl rfl), (in_0 (i := 2) rfl rfl), (in_1 (i := 1) rfl rfl), (in_2 (i := 100) rfl rfl), ⟨by decide +kernel, by decide +kernel, by decide +kernel⟩, _, _, rfl⟩
theorem v_X11_99 : MV RX11 99 yX8_canType cX8_canType 6 (some .boolean) 2 8 := ⟨(in_2 (i := 124) rfl rfl), (in_2 (i := 125) rfl rfl), (in_2 (i := 126) rfl rfl), (in_1 (i := 3) rfl rfl), (in_2 (i := 127) rfl rfl), ⟨by decide +kernel, by decide +kernel, by decide +kernel⟩, _, _, rfl⟩
theorem v_X12_108 : MV RX12 108 yX12_otherOf cX12_otherOf 3 (some .int) 1 12 := ⟨(in_5 (i := 103) rfl rfl), (in_5 (i := 105) rfl rfl), (in_0 (i := 19) rfl rfl), (in_1 (i := 13) rfl rfl), (in_5 (i := 106) rfl rfl), ⟨by decide +kernel, by decide +kernel, by decide +kernel⟩, _, _, rfl⟩
theorem v_X12_112 : MV RX12 112 yX12_frees cX12_frees 2 none 1 12 := ⟨(in_5 (i := 53) rfl rfl), (in_5 (i := 55) rfl rfl), (in_0 (i := 13) rfl rfl), (in_1 (i := 13) rfl rfl), (in_5 (i := 56) rfl rfl), ⟨by decide +kernel, by decide +kernel, by decide +kernel⟩, _, _, rfl⟩
theorem v_X12_116 : MV RX12 116 yX12_isCell cX12_isCell 2 (some .boolean) 1 12 := ⟨(in_5 (i := 45) rfl rfl), (in_5 (i := 47) rfl rfl), (in_0 (i := 11) rfl rfl), (in_1 (i := 13) rfl rfl), (in_5 (i := 48) rfl rfl), ⟨by decide +kernel, by decide +kernel, by decide +kernel⟩, _, _, rfl⟩
theorem v_X12_120 : MV RX12 120 yX12_sets cX12_sets 3 none 2 12 := ⟨(in_5 (i := 49) rfl rfl), (in_5 (i := 51) rfl rfl), (in_0 (i := 12) rfl rfl), (in_1 (i := 13) rfl rfl), (in_5 (i := 52) rfl rfl), ⟨by decide +kernel, by decide +kernel, by decide +kernel⟩, _, _, rfl⟩
theorem v_X12_136 : MV RX12 136 yX12_next cX12_next 1 (some .int) 0 12 := ⟨(in_5 (i := 68) rfl rfl), (in_5 (i := 70) rfl rfl), (in_0 (i := 14) rfl rfl), (in_1 (i := 13) rfl rfl), (in_5 (i := 71) rfl rfl), ⟨by decide +kernel, by decide +kernel, by decide +kernel⟩, _, _, rfl⟩
theorem v_X12_140 : MV RX12 140 yX12_openMany cX12_openMany 3 (some .int) 0 12 := ⟨(in_5 (i := 72) rfl rfl), (in_5 (i := 74) rfl rfl), (in_0 (i := 15) rfl rfl), (in_1 (i := 13) rfl rfl), (in_5 (i := 75) rfl rfl), ⟨by decide +kernel, by decide +kernel, by decide +kernel⟩, _, _, rfl⟩
theorem v_X12_146 : MV RX12 146 yX12_finds cX12_finds 5 (some .int) 4 12 := ⟨(in_5 (i := 84) rfl rfl), (in_5 (i := 86) rfl rfl), (in_0 (i := 16) rfl rfl), (in_1 (i := 13) rfl rfl), (in_5 (i := 87) rfl rfl), ⟨by decide +kernel, by decide +kernel, by decide +kernel⟩, _, _, rfl⟩
theorem v_X12_150 : MV RX12 150 yX12_isDarkCell cX12_isDarkCell 2 (some .boolean) 1 12 := ⟨(in_5 (i := 92) rfl rfl), (in_5 (i := 94) rfl rfl), (in_0 (i := 17) rfl rfl), (in_1 (i := 13) rfl rfl), (in_5 (i := 95) rfl rfl), ⟨by decide +kernel, by decide +kernel, by decide +kernel⟩, _, _, rfl⟩
theorem v_X12_153 : MV RX12 153 yX12_isBrick cX12_isBrick 3 (some .boolean) 1 12 := ⟨(in_5 (i := 99) rfl rfl), (in_5 (i := 101) rfl rfl), (in_0 (i := 18) rfl rfl), (in_1 (i := 13) rfl rfl), (in_5 (i := 102) rfl rfl), ⟨by decide +kernel, by decide +kernel, by decide +kernel⟩, _, _, rfl⟩
theorem v_X12_160 : MV RX12 160 yX12_musts cX12_musts 7 none 1 12 := ⟨(in_5 (i := 125) rfl rfl), (in_5 (i := 127) rfl rfl), (in_0 (i := 21) rfl rfl), (in_1 (i := 13) rfl rfl), (in_5 (i := 128) rfl rfl), ⟨by decide +kernel, by decide +kernel, by decide +kernel⟩, _, _, rfl⟩
theorem v_X12_163 : MV RX12 163 yX12_canEast cX12_canEast 3 (some .boolean) 2 12 := ⟨(in_5 (i := 137) rfl rfl), (in_5 (i := 139) rfl rfl), (in_0 (i := 24) rfl rfl), (in_1 (i := 13) rfl rfl), (in_5 (i := 140) rfl rfl), ⟨by decide +kernel, by decide +kernel, by decide +kernel⟩, _, _, rfl⟩
theorem v_X12_166 : MV RX12 166 yX12_countOn cX12_countOn 10 none 0 12 := ⟨(in_5 (i := 133) rfl rfl), (in_5 (i := 135) rfl rfl), (in_0 (i := 23) rfl rfl), (in_1 (i := 13) rfl rfl), (in_5 (i := 136) rfl rfl), ⟨by decide +kernel, by decide +kernel, by decide +kernel⟩, _, _, rfl⟩
theorem v_X12_169 : MV RX12 169 yX12_allows cX12_allows 3 none 1 12 := ⟨(in_5 (i := 121) rfl rfl), (in_5 (i := 123) rfl rfl), (in_0 (i := 20) rfl rfl), (in_1 (i := 13) rfl rfl), (in_5 (i := 124) rfl rfl), ⟨by decide +kernel, by decide +kernel, by decide +kernel⟩, _, _, rfl⟩
theorem v_X12_173 : MV RX12 173 yX12_countAll cX12_countAll 1 (some .long) 0 12 := ⟨(in_5 (i := 129) rfl rfl), (in_5 (i := 131) rfl rfl), (in_0 (i := 22) rfl rfl), (in_1 (i := 13) rfl rfl), (in_5 (i := 132) rfl rfl), ⟨by decide +kernel, by decide +kernel, by decide +kernel⟩, _, _, rfl⟩
theorem v_X12_177 : MV RX12 177 yX12_shareOf cX12_shareOf 2 (some .long) 1 12 := ⟨(in_5 (i := 145) rfl rfl), (in_5 (i := 147) rfl rfl), (in_0 (i := 25) rfl rfl), (in_1 (i := 13) rfl rfl), (in_5 (i := 148) rfl rfl), ⟨by decide +kernel, by decide +kernel, by decide +kernel⟩, _, _, rfl⟩
theorem v_X12_183 : MV RX12 183 yX12_pavings cX12_pavings 1 (some .long) 0 12 := ⟨(in_5 (i := 154) rfl rfl), (in_5 (i := 118) rfl rfl), (in_5 (i := 119) rfl rfl), (in_1 (i := 13) rfl rfl), (in_5 (i := 120) rfl rfl), ⟨by decide +kernel, by decide +kernel, by decide +kernel⟩, _, _, rfl⟩
theorem v_X12_191 : MV RX12 191 yX12_lays cX12_lays 3 none 2 12 := ⟨(in_5 (i := 162) rfl rfl), (in_5 (i := 164) rfl rfl), (in_0 (i := 26) rfl rfl), (in_1 (i := 13) rfl rfl), (in_5 (i := 165) rfl rfl), ⟨by decide +kernel, by decide +kernel, by decide +kernel⟩, _, _, rfl⟩
theorem v_X12_199 : MV RX12 199 yX12_sumBy cX12_sumBy 5 (some .int) 3 12 := ⟨(in_5 (i := 189) rfl rfl), (in_5 (i := 191) rfl rfl), (in_0 (i := 29) rfl rfl), (in_1 (i := 13) rfl rfl), (in_5 (i := 192) rfl rfl), ⟨by decide +kernel, by decide +kernel, by decide +kernel⟩, _, _, rfl⟩
theorem v_X12_203 : MV RX12 203 yX12_eastSum cX12_eastSum 3 (some .int) 2 12 := ⟨(in_5 (i := 185) rfl rfl), (in_5 (i := 187) rfl rfl), (in_0 (i := 28) rfl rfl), (in_1 (i := 13) rfl rfl), (in_5 (i := 188) rfl rfl), ⟨by decide +kernel, by decide +kernel, by decide +kernel⟩, _, _, rfl⟩
theorem v_X12_207 : MV RX12 207 yX12_sums cX12_sums 7 none 0 12 := ⟨(in_5 (i := 180) rfl rfl), (in_5 (i := 182) rfl rfl), (in_0 (i := 27) rfl rfl), (in_1 (i := 13) rfl rfl), (in_5 (i := 183) rfl rfl), ⟨by decide +kernel, by decide +kernel, by decide +kernel⟩, _, _, rfl⟩
theorem v_X12_210 : MV RX12 210 yX12_isOpenAt cX12_isOpenAt 3 (some .boolean) 2 12 := ⟨(in_5 (i := 225) rfl rfl), (in_5 (i := 227) rfl rfl), (in_0 (i := 34) rfl rfl), (in_1 (i := 13) rfl rfl), (in_5 (i := 228) rfl rfl), ⟨by decide +kernel, by decide +kernel, by decide +kernel⟩, _, _, rfl⟩
theorem v_X12_213 : MV RX12 213 yX12_beside cX12_beside 5 (some .int) 2 12 := ⟨(in_5 (i := 221) rfl rfl), (in_5 (i := 223) rfl rfl), (in_0 (i := 33) rfl rfl), (in_1 (i := 13) rfl rfl), (in_5 (i := 224) rfl rfl), ⟨by decide +kernel, by decide +kernel, by decide +kernel⟩, _, _, rfl⟩
theorem v_X12_216 : MV RX12 216 yX12_forgets cX12_forgets 2 none 0 12 := ⟨(in_5 (i := 213) rfl rfl), (in_5 (i := 215) rfl rfl), (in_0 (i := 31) rfl rfl), (in_1 (i := 13) rfl rfl), (in_5 (i := 216) rfl rfl), ⟨by decide +kernel, by decide +kernel, by decide +kernel⟩, _, _, rfl⟩
theorem v_X12_219 : MV RX12 219 yX12_searches cX12_searches 6 (some .int) 1 12 := ⟨(in_5 (i := 217) rfl rfl), (in_5 (i := 219) rfl rfl), (in_0 (i := 32) rfl rfl), (in_1 (i := 13) rfl rfl), (in_5 (i := 220) rfl rfl), ⟨by decide +kernel, by decide +kernel, by decide +kernel⟩, _, _, rfl⟩
theorem v_X12_222 : MV RX12 222 yX12_matches cX12_matches 6 (some .int) 0 12 := ⟨(in_5 (i := 209) rfl rfl), (in_5 (i := 211) rfl rfl), (in_0 (i := 30) rfl rfl), (in_1 (i := 13) rfl rfl), (in_5 (i := 212) rfl rfl), ⟨by decide +kernel, by decide +kernel, by decide +kernel⟩, _, _, rfl⟩
theorem v_X12_225 : MV RX12 225 yX12_doubtAll cX12_doubtAll 6 none 1 12 := ⟨(in_5 (i := 233) rfl rfl), (in_5 (i := 235) rfl rfl), (in_0 (i := 35) rfl rfl), (in_1 (i := 13) rfl rfl), (in_5 (i := 236) rfl rfl), ⟨by decide +kernel, by decide +kernel, by decide +kernel⟩, _, _, rfl⟩
theorem v_X12_228 : MV RX12 228 yX12_isOpenFrame cX12_isOpenFrame 2 (some .boolean) 1 12 := ⟨(in_6 (i := 13) rfl rfl), (in_6 (i := 15) rfl rfl), (in_0 (i := 38) rfl rfl), (in_1 (i := 13) rfl rfl), (in_6 (i := 16) rfl rfl), ⟨by decide +kernel, by decide +kernel, by decide +kernel⟩, _, _, rfl⟩
theorem v_X12_231 : MV RX12 231 yX12_meets cX12_meets 12 (some .int) 2 12 := ⟨(in_6 (i := 9) rfl rfl), (in_6 (i := 11) rfl rfl), (in_0 (i := 37) rfl rfl), (in_1 (i := 13) rfl rfl), (in_6 (i := 12) rfl rfl), ⟨by decide +kernel, by decide +kernel, by decide +kernel⟩, _, _, rfl⟩
theorem v_X12_235 : MV RX12 235 yX12_isWhole cX12_isWhole 10 (some .boolean) 0 12 := ⟨(in_6 (i := 5) rfl rfl), (in_6 (i := 7) rfl rfl), (in_0 (i := 36) rfl rfl), (in_1 (i := 13) rfl rfl), (in_6 (i := 8) rfl rfl), ⟨by decide +kernel, by decide +kernel, by decide +kernel⟩, _, _, rfl⟩
theorem v_X12_239 : MV RX12 239 yX12_isBarred cX12_isBarred 8 (some .boolean) 5 12 := ⟨(in_6 (i := 37) rfl rfl), (in_6 (i := 39) rfl rfl), (in_0 (i := 43) rfl rfl), (in_1 (i := 13) rfl rfl), (in_6 (i := 40) rfl rfl), ⟨by decide +kernel, by decide +kernel, by decide +kernel⟩, _, _, rfl⟩
theorem v_X12_243 : MV RX12 243 yX12_isCorner cX12_isCorner 3 (some .boolean) 2 12 := ⟨(in_6 (i := 21) rfl rfl), (in_6 (i := 23) rfl rfl), (in_0 (i := 39) rfl rfl), (in_1 (i := 13) rfl rfl), (in_6 (i := 24) rfl rfl), ⟨by decide +kernel, by decide +kernel, by decide +kernel⟩, _, _, rfl⟩
theorem v_X12_246 : MV RX12 246 yX12_steps cX12_steps 5 (some .int) 4 12 := ⟨(in_6 (i := 33) rfl rfl), (in_6 (i := 35) rfl rfl), (in_0 (i := 42) rfl rfl), (in_1 (i := 13) rfl rfl), (in_6 (i := 36) rfl rfl), ⟨by decide +kernel, by decide +kernel, by decide +kernel⟩, _, _, rfl⟩
theorem v_X12_249 : MV RX12 249 yX12_refuses cX12_refuses 2 (some .int) 1 12 := ⟨(in_6 (i := 25) rfl rfl), (in_6 (i := 27) rfl rfl), (in_0 (i := 40) rfl rfl), (in_1 (i := 13) rfl rfl), (in_6 (i := 28) rfl rfl), ⟨by decide +kernel, by decide +kernel, by decide +kernel⟩, _, _, rfl⟩
theorem v_X12_252 : MV RX12 252 yX12_rises cX12_rises 10 none 1 12 := ⟨(in_6 (i := 29) rfl rfl), (in_6 (i := 31) rfl rfl), (in_0 (i := 41) rfl rfl), (in_1 (i := 13) rfl rfl), (in_6 (i := 32) rfl rfl), ⟨by decide +kernel, by decide +kernel, by decide +kernel⟩, _, _, rfl⟩
theorem v_X12_255 : MV RX12 255 yX12_turnOf cX12_turnOf 8 (some .int) 3 12 := ⟨(in_6 (i := 45) rfl rfl), (in_6 (i := 47) rfl rfl), (in_0 (i := 44) rfl rfl), (in_1 (i := 13) rfl rfl), (in_6 (i := 48) rfl rfl), ⟨by decide +kernel, by decide +kernel, by decide +kernel⟩, _, _, rfl⟩
theorem v_X12_258 : MV RX12 258 yX12_across cX12_across 6 none 3 12 := ⟨(in_6 (i := 49) rfl rfl), (in_6 (i := 51) rfl rfl), (in_0 (i := 45) rfl rfl), (in_1 (i := 13) rfl rfl), (in_6 (i := 52) rfl rfl), ⟨by decide +kernel, by decide +kernel, by decide +kernel⟩, _, _, rfl⟩
theorem v_X12_262 : MV RX12 262 yX12_turnMany cX12_turnMany 5 (some .int) 2 12 := ⟨(in_6 (i := 57) rfl rfl), (in_6 (i := 59) rfl rfl), (in_0 (i := 46) rfl rfl), (in_1 (i := 13) rfl rfl), (in_6 (i := 60) rfl rfl), ⟨by decide +kernel, by decide +kernel, by decide +kernel⟩, _, _, rfl⟩
theorem v_X12_265 : MV RX12 265 yX12_refusesBoth cX12_refusesBoth 3 (some .int) 2 12 := ⟨(in_6 (i := 69) rfl rfl), (in_6 (i := 71) rfl rfl), (in_0 (i := 47) rfl rfl), (in_1 (i := 13) rfl rfl), (in_6 (i := 72) rfl rfl), ⟨by decide +kernel, by decide +kernel, by decide +kernel⟩, _, _, rfl⟩
theorem v_X12_268 : MV RX12 268 yX12_farOf cX12_farOf 6 (some .int) 2 12 := ⟨(in_6 (i := 73) rfl rfl), (in_6 (i := 75) rfl rfl), (in_0 (i := 48) rfl rfl), (in_1 (i := 13) rfl rfl), (in_6 (i := 76) rfl rfl), ⟨by decide +kernel, by decide +kernel, by decide +kernel⟩, _, _, rfl⟩
theorem v_X12_271 : MV RX12 271 yX12_isCrossed cX12_isCrossed 6 (some .boolean) 2 12 := ⟨(in_6 (i := 85) rfl rfl), (in_6 (i := 87) rfl rfl), (in_0 (i := 49) rfl rfl), (in_1 (i := 13) rfl rfl), (in_6 (i := 88) rfl rfl), ⟨by decide +kernel, by decide +kernel, by decide +kernel⟩, _, _, rfl⟩
theorem v_X12_274 : MV RX12 274 yX12_mateIn cX12_mateIn 4 (some .int) 2 12 := ⟨(in_6 (i := 101) rfl rfl), (in_6 (i := 103) rfl rfl), (in_0 (i := 51) rfl rfl), (in_1 (i := 13) rfl rfl), (in_6 (i := 104) rfl rfl), ⟨by decide +kernel, by decide +kernel, by decide +kernel⟩, _, _, rfl⟩
theorem v_X12_277 : MV RX12 277 yX12_ringMany cX12_ringMany 7 (some .int) 2 12 := ⟨(in_6 (i := 97) rfl rfl), (in_6 (i := 99) rfl rfl), (in_0 (i := 50) rfl rfl), (in_1 (i := 13) rfl rfl), (in_6 (i := 100) rfl rfl), ⟨by decide +kernel, by decide +kernel, by decide +kernel⟩, _, _, rfl⟩
theorem v_X12_280 : MV RX12 280 yX12_ringSize cX12_ringSize 4 (some .int) 1 12 := ⟨(in_6 (i := 109) rfl rfl), (in_6 (i := 111) rfl rfl), (in_0 (i := 52) rfl rfl), (in_1 (i := 13) rfl rfl), (in_6 (i := 112) rfl rfl), ⟨by decide +kernel, by decide +kernel, by decide +kernel⟩, _, _, rfl⟩
theorem v_X12_84 : MV RX12 84 yX12_begins cX12_begins 4 none 2 12 := ⟨(in_4 (i := 180) rfl rfl), (in_4 (i := 182) rfl rfl), (in_0 (i := 9) rfl rfl), (in_1 (i := 13) rfl rfl), (in_4 (i := 183) rfl rfl), ⟨by decide +kernel, by decide +kernel, by decide +kernel⟩, _, _, rfl⟩
theorem v_X12_95 : MV RX12 95 yX12_emptySlots cX12_emptySlots 2 none 0 12 := ⟨(in_4 (i := 184) rfl rfl), (in_4 (i := 186) rfl rfl), (in_0 (i := 10) rfl rfl), (in_1 (i := 13) rfl rfl), (in_4 (i := 187) rfl rfl), ⟨by decide +kernel, by decide +kernel, by decide +kernel⟩, _, _, rfl⟩
theorem v_X2_34 : MV RX2 34 yX10_cells cX10_cells 1 (some .int) 0 10 := ⟨(in_3 (i := 166) rfl rfl), (in_2 (i := 86) rfl rfl), (in_2 (i := 87) rfl rfl), (in_1 (i := 2) rfl rfl), (in_2 (i := 88) rfl rfl), ⟨by decide +kernel, by decide +kernel, by decide +kernel⟩, _, _, rfl⟩
theorem v_X2_44 : MV RX2 44 yX10_isDark cX10_isDark 2 (some .boolean) 1 10 := ⟨(in_3 (i := 167) rfl rfl), (in_2 (i := 179) rfl rfl), (in_2 (i := 180) rfl rfl), (in_1 (i := 2) rfl rfl), (in_2 (i := 181) rfl rfl), ⟨by decide +kernel, by decide +kernel, by decide +kernel⟩, _, _, rfl⟩
theorem v_X2_48 : MV RX2 48 yX2_findMateFor cX2_findMateFor 7 (some .boolean) 2 2 := ⟨(in_3 (i := 168) rfl rfl), (in_3 (i := 169) rfl rfl), (in_3 (i := 170) rfl rfl), (in_1 (i := 6) rfl rfl), (in_3 (i := 171) rfl rfl), ⟨by decide +kernel, by decide +kernel, by decide +kernel⟩, _, _, rfl⟩
theorem v_X2_56 : MV RX2 56 yX9_clear cX9_clear 2 none 0 9 := ⟨(in_3 (i := 172) rfl rfl), (in_3 (i := 173) rfl rfl), (in_3 (i := 174) rfl rfl), (in_1 (i := 7) rfl rfl), (in_3 (i := 175) rfl rfl), ⟨by decide +kernel, by decide +kernel, by decide +kernel⟩, _, _, rfl⟩
theorem v_X2_59 : MV RX2 59 yX9_reach cX9_reach 2 (some .boolean) 1 9 := ⟨(in_3 (i := 176) rfl rfl), (in_3 (i := 177) rfl rfl), (in_3 (i := 178) rfl rfl), (in_1 (i := 7) rfl rfl), (in_3 (i := 179) rfl rfl), ⟨by decide +kernel, by decide +kernel, by decide +kernel⟩, _, _, rfl⟩
theorem v_X2_69 : MV RX2 69 yX10_beside cX10_beside 5 (some .int) 2 10 := ⟨(in_3 (i := 180) rfl rfl), (in_3 (i := 181) rfl rfl), (in_3 (i := 182) rfl rfl), (in_1 (i := 2) rfl rfl), (in_3 (i := 183) rfl rfl), ⟨by decide +kernel, by decide +kernel, by decide +kernel⟩, _, _, rfl⟩
theorem v_X2_73 : MV RX2 73 yX2_swapPath cX2_swapPath 6 none 1 2 := ⟨(in_3 (i := 184) rfl rfl), (in_3 (i := 185) rfl rfl), (in_3 (i := 186) rfl rfl), (in_1 (i := 6) rfl rfl), (in_3 (i := 187) rfl rfl), ⟨by decide +kernel, by decide +kernel, by decide +kernel⟩, _, _, rfl⟩
theorem v_X2_77 : MV RX2 77 yX2_find cX2_find 4 (some .int) 1 2 := ⟨(in_3 (i := 197) rfl rfl), (in_3 (i := 162) rfl rfl), (in_3 (i := 163) rfl rfl), (in_1 (i := 6) rfl rfl), (in_3 (i := 164) rfl rfl), ⟨by decide +kernel, by decide +kernel, by decide +kernel⟩, _, _, rfl⟩
theorem v_X3_15 : MV RX3 15 yX10_secondCell cX10_secondCell 4 (some .int) 1 10 := ⟨(in_3 (i := 59) rfl rfl), (in_2 (i := 191) rfl rfl), (in_2 (i := 192) rfl rfl), (in_1 (i := 2) rfl rfl), (in_2 (i := 193) rfl rfl), ⟨by decide +kernel, by decide +kernel, by decide +kernel⟩, _, _, rfl⟩
theorem v_X3_40 : MV RX3 40 yX10_stands cX10_stands 2 (some .boolean) 1 10 := ⟨(in_3 (i := 154) rfl rfl), (in_2 (i := 187) rfl rfl), (in_2 (i := 188) rfl rfl), (in_1 (i := 2) rfl rfl), (in_2 (i := 189) rfl rfl), ⟨by decide +kernel, by decide +kernel, by decide +kernel⟩, _, _, rfl⟩
theorem v_X3_44 : MV RX3 44 yX10_openCells cX10_openCells 3 (some .int) 0 10 := ⟨(in_3 (i := 155) rfl rfl), (in_2 (i := 155) rfl rfl), (in_2 (i := 156) rfl rfl), (in_1 (i := 2) rfl rfl), (in_2 (i := 157) rfl rfl), ⟨by decide +kernel, by decide +kernel, by decide +kernel⟩, _, _, rfl⟩
theorem v_X3_48 : MV RX3 48 yX3_put cX3_put 4 none 2 3 := ⟨(in_3 (i := 156) rfl rfl), (in_3 (i := 56) rfl rfl), (in_3 (i := 57) rfl rfl), (in_1 (i := 11) rfl rfl), (in_3 (i := 58) rfl rfl), ⟨by decide +kernel, by decide +kernel, by decide +kernel⟩, _, _, rfl⟩
theorem v_X3_56 : MV RX3 56 yX10_cells cX10_cells 1 (some .int) 0 10 := ⟨(in_3 (i := 130) rfl rfl), (in_2 (i := 86) rfl rfl), (in_2 (i := 87) rfl rfl), (in_1 (i := 2) rfl rfl), (in_2 (i := 88) rfl rfl), ⟨by decide +kernel, by decide +kernel, by decide +kernel⟩, _, _, rfl⟩
theorem v_X3_59 : MV RX3 59 yX3_startsAt cX3_startsAt 3 (some .boolean) 2 3 := ⟨(in_3 (i := 131) rfl rfl), (in_3 (i := 132) rfl rfl), (in_3 (i := 133) rfl rfl), (in_1 (i := 11) rfl rfl), (in_3 (i := 134) rfl rfl), ⟨by decide +kernel, by decide +kernel, by decide +kernel⟩, _, _, rfl⟩
theorem v_X3_69 : MV RX3 69 yX10_column cX10_column 2 (some .int) 1 10 := ⟨(in_4 (i := 91) rfl rfl), (in_2 (i := 114) rfl rfl), (in_2 (i := 115) rfl rfl), (in_1 (i := 2) rfl rfl), (in_2 (i := 116) rfl rfl), ⟨by decide +kernel, by decide +kernel, by decide +kernel⟩, _, _, rfl⟩
theorem v_X4_24 : MV RX4 24 yX10_cells cX10_cells 1 (some .int) 0 10 := ⟨(in_4 (i := 115) rfl rfl), (in_2 (i := 86) rfl rfl), (in_2 (i := 87) rfl rfl), (in_1 (i := 2) rfl rfl), (in_2 (i := 88) rfl rfl), ⟨by decide +kernel, by decide +kernel, by decide +kernel⟩, _, _, rfl⟩
theorem v_X4_39 : MV RX4 39 yX4_goRound cX4_goRound 9 (some .int) 5 4 := ⟨(in_4 (i := 116) rfl rfl), (in_4 (i := 117) rfl rfl), (in_4 (i := 118) rfl rfl), (in_1 (i := 10) rfl rfl), (in_4 (i := 119) rfl rfl), ⟨by decide +kernel, by decide +kernel, by decide +kernel⟩, _, _, rfl⟩
theorem v_X4_47 : MV RX4 47 yX10_secondCell cX10_secondCell 4 (some .int) 1 10 := ⟨(in_4 (i := 123) rfl rfl), (in_2 (i := 191) rfl rfl), (in_2 (i := 192) rfl rfl), (in_1 (i := 2) rfl rfl), (in_2 (i := 193) rfl rfl), ⟨by decide +kernel, by decide +kernel, by decide +kernel⟩, _, _, rfl⟩
theorem v_X5_18 : MV RX5 18 yX5_openIsOne cX5_openIsOne 4 (some .boolean) 1 5 := ⟨(in_3 (i := 214) rfl rfl), (in_3 (i := 215) rfl rfl), (in_3 (i := 216) rfl rfl), (in_1 (i := 8) rfl rfl), (in_3 (i := 217) rfl rfl), ⟨by decide +kernel, by decide +kernel, by decide +kernel⟩, _, _, rfl⟩
theorem v_X5_22 : MV RX5 22 yX5_closedIsOne cX5_closedIsOne 6 (some .boolean) 1 5 := ⟨(in_3 (i := 223) rfl rfl), (in_3 (i := 224) rfl rfl), (in_3 (i := 225) rfl rfl), (in_1 (i := 8) rfl rfl), (in_3 (i := 226) rfl rfl), ⟨by decide +kernel, by decide +kernel, by decide +kernel⟩, _, _, rfl⟩
theorem v_X5_25 : MV RX5 25 yX5_touchesByCorner cX5_touchesByCorner 8 (some .boolean) 1 5 := ⟨(in_3 (i := 231) rfl rfl), (in_3 (i := 232) rfl rfl), (in_3 (i := 233) rfl rfl), (in_1 (i := 8) rfl rfl), (in_3 (i := 234) rfl rfl), ⟨by decide +kernel, by decide +kernel, by decide +kernel⟩, _, _, rfl⟩
theorem v_X5_28 : MV RX5 28 yX9_clear cX9_clear 2 none 0 9 := ⟨(in_3 (i := 218) rfl rfl), (in_3 (i := 173) rfl rfl), (in_3 (i := 174) rfl rfl), (in_1 (i := 7) rfl rfl), (in_3 (i := 175) rfl rfl), ⟨by decide +kernel, by decide +kernel, by decide +kernel⟩, _, _, rfl⟩
theorem v_X5_31 : MV RX5 31 yX10_cells cX10_cells 1 (some .int) 0 10 := ⟨(in_3 (i := 219) rfl rfl), (in_2 (i := 86) rfl rfl), (in_2 (i := 87) rfl rfl), (in_1 (i := 2) rfl rfl), (in_2 (i := 88) rfl rfl), ⟨by decide +kernel, by decide +kernel, by decide +kernel⟩, _, _, rfl⟩
theorem v_X5_45 : MV RX5 45 yX9_reach cX9_reach 2 (some .boolean) 1 9 := ⟨(in_3 (i := 220) rfl rfl), (in_3 (i := 177) rfl rfl), (in_3 (i := 178) rfl rfl), (in_1 (i := 7) rfl rfl), (in_3 (i := 179) rfl rfl), ⟨by decide +kernel, by decide +kernel, by decide +kernel⟩, _, _, rfl⟩
theorem v_X5_53 : MV RX5 53 yX10_beside cX10_beside 5 (some .int) 2 10 := ⟨(in_3 (i := 221) rfl rfl), (in_3 (i := 181) rfl rfl), (in_3 (i := 182) rfl rfl), (in_1 (i := 2) rfl rfl), (in_3 (i := 183) rfl rfl), ⟨by decide +kernel, by decide +kernel, by decide +kernel⟩, _, _, rfl⟩
theorem v_X5_57 : MV RX5 57 yX10_openCells cX10_openCells 3 (some .int) 0 10 := ⟨(in_3 (i := 222) rfl rfl), (in_2 (i := 155) rfl rfl), (in_2 (i := 156) rfl rfl), (in_1 (i := 2) rfl rfl), (in_2 (i := 157) rfl rfl), ⟨by decide +kernel, by decide +kernel, by decide +kernel⟩, _, _, rfl⟩
theorem v_X5_70 : MV RX5 70 yX10_openAt cX10_openAt 4 (some .int) 2 10 := ⟨(in_3 (i := 230) rfl rfl), (in_2 (i := 195) rfl rfl), (in_2 (i := 196) rfl rfl), (in_1 (i := 2) rfl rfl), (in_2 (i := 197) rfl rfl), ⟨by decide +kernel, by decide +kernel, by decide +kernel⟩, _, _, rfl⟩
theorem v_X7_107 : MV RX7 107 yX7_canEast cX7_canEast 4 (some .boolean) 3 7 := ⟨(in_3 (i := 27) rfl rfl), (in_3 (i := 28) rfl rfl), (in_3 (i := 29) rfl rfl), (in_1 (i := 4) rfl rfl), (in_3 (i := 30) rfl rfl), ⟨by decide +kernel, by decide +kernel, by decide +kernel⟩, _, _, rfl⟩
theorem v_X7_117 : MV RX7 117 yX7_waysEast cX7_waysEast 4 (some .long) 3 7 := ⟨(in_3 (i := 51) rfl rfl), (in_3 (i := 52) rfl rfl), (in_3 (i := 53) rfl rfl), (in_1 (i := 4) rfl rfl), (in_3 (i := 54) rfl rfl), ⟨by decide +kernel, by decide +kernel, by decide +kernel⟩, _, _, rfl⟩
theorem v_X7_120 : MV RX7 120 yX3_put cX3_put 4 none 2 3 := ⟨(in_3 (i := 55) rfl rfl), (in_3 (i := 56) rfl rfl), (in_3 (i := 57) rfl rfl), (in_1 (i := 11) rfl rfl), (in_3 (i := 58) rfl rfl), ⟨by decide +kernel, by decide +kernel, by decide +kernel⟩, _, _, rfl⟩
theorem v_X7_143 : MV RX7 143 yX7_shareAt cX7_shareAt 8 none 2 7 := ⟨(in_3 (i := 20) rfl rfl), (in_3 (i := 21) rfl rfl), (in_3 (i := 22) rfl rfl), (in_1 (i := 4) rfl rfl), (in_3 (i := 23) rfl rfl), ⟨by decide +kernel, by decide +kernel, by decide +kernel⟩, _, _, rfl⟩
theorem v_X7_36 : MV RX7 36 yX7_fillWays cX7_fillWays 3 none 1 7 := ⟨(in_2 (i := 223) rfl rfl), (in_2 (i := 224) rfl rfl), (in_2 (i := 225) rfl rfl), (in_1 (i := 4) rfl rfl), (in_2 (i := 226) rfl rfl), ⟨by decide +kernel, by decide +kernel, by decide +kernel⟩, _, _, rfl⟩
theorem v_X7_40 : MV RX7 40 yX7_fillCosts cX7_fillCosts 3 none 1 7 := ⟨(in_3 (i := 97) rfl rfl), (in_3 (i := 98) rfl rfl), (in_3 (i := 99) rfl rfl), (in_1 (i := 4) rfl rfl), (in_3 (i := 100) rfl rfl), ⟨by decide +kernel, by decide +kernel, by decide +kernel⟩, _, _, rfl⟩
theorem v_X7_43 : MV RX7 43 yX10_cells cX10_cells 1 (some .int) 0 10 := ⟨(in_2 (i := 231) rfl rfl), (in_2 (i := 86) rfl rfl), (in_2 (i := 87) rfl rfl), (in_1 (i := 2) rfl rfl), (in_2 (i := 88) rfl rfl), ⟨by decide +kernel, by decide +kernel, by decide +kernel⟩, _, _, rfl⟩
theorem v_X7_49 : MV RX7 49 yX10_stands cX10_stands 2 (some .boolean) 1 10 := ⟨(in_2 (i := 232) rfl rfl), (in_2 (i := 187) rfl rfl), (in_2 (i := 188) rfl rfl), (in_1 (i := 2) rfl rfl), (in_2 (i := 189) rfl rfl), ⟨by decide +kernel, by decide +kernel, by decide +kernel⟩, _, _, rfl⟩
theorem v_X7_57 : MV RX7 57 yX7_dropOthers cX7_dropOthers 6 none 3 7 := ⟨(in_2 (i := 233) rfl rfl), (in_2 (i := 234) rfl rfl), (in_2 (i := 235) rfl rfl), (in_1 (i := 4) rfl rfl), (in_2 (i := 236) rfl rfl), ⟨by decide +kernel, by decide +kernel, by decide +kernel⟩, _, _, rfl⟩
theorem v_X7_61 : MV RX7 61 yX10_secondCell cX10_secondCell 4 (some .int) 1 10 := ⟨(in_2 (i := 238) rfl rfl), (in_2 (i := 191) rfl rfl), (in_2 (i := 192) rfl rfl), (in_1 (i := 2) rfl rfl), (in_2 (i := 193) rfl rfl), ⟨by decide +kernel, by decide +kernel, by decide +kernel⟩, _, _, rfl⟩
theorem v_X7_65 : MV RX7 65 yX10_brickOn cX10_brickOn 3 (some .int) 2 10 := ⟨(in_2 (i := 237) rfl rfl), (in_2 (i := 106) rfl rfl), (in_2 (i := 107) rfl rfl), (in_1 (i := 2) rfl rfl), (in_2 (i := 108) rfl rfl), ⟨by decide +kernel, by decide +kernel, by decide +kernel⟩, _, _, rfl⟩
theorem v_X7_69 : MV RX7 69 yX7_findFits cX7_findFits 4 none 1 7 := ⟨(in_2 (i := 227) rfl rfl), (in_2 (i := 228) rfl rfl), (in_2 (i := 229) rfl rfl), (in_1 (i := 4) rfl rfl), (in_2 (i := 230) rfl rfl), ⟨by decide +kernel, by decide +kernel, by decide +kernel⟩, _, _, rfl⟩
theorem v_X7_72 : MV RX7 72 yX7_startTable cX7_startTable 8 none 3 7 := ⟨(in_2 (i := 239) rfl rfl), (in_3 (i := 0) rfl rfl), (in_3 (i := 1) rfl rfl), (in_1 (i := 4) rfl rfl), (in_3 (i := 2) rfl rfl), ⟨by decide +kernel, by decide +kernel, by decide +kernel⟩, _, _, rfl⟩
theorem v_X7_76 : MV RX7 76 yX7_fillWaysAt cX7_fillWaysAt 11 none 2 7 := ⟨(in_3 (i := 3) rfl rfl), (in_3 (i := 4) rfl rfl), (in_3 (i := 5) rfl rfl), (in_1 (i := 4) rfl rfl), (in_3 (i := 6) rfl rfl), ⟨by decide +kernel, by decide +kernel, by decide +kernel⟩, _, _, rfl⟩
theorem v_X7_82 : MV RX7 82 yX7_fillCostsAt cX7_fillCostsAt 9 none 2 7 := ⟨(in_3 (i := 102) rfl rfl), (in_3 (i := 103) rfl rfl), (in_3 (i := 104) rfl rfl), (in_1 (i := 4) rfl rfl), (in_3 (i := 105) rfl rfl), ⟨by decide +kernel, by decide +kernel, by decide +kernel⟩, _, _, rfl⟩
theorem v_X7_88 : MV RX7 88 yX10_column cX10_column 2 (some .int) 1 10 := ⟨(in_3 (i := 7) rfl rfl), (in_2 (i := 114) rfl rfl), (in_2 (i := 115) rfl rfl), (in_1 (i := 2) rfl rfl), (in_2 (i := 116) rfl rfl), ⟨by decide +kernel, by decide +kernel, by decide +kernel⟩, _, _, rfl⟩
theorem v_X7_94 : MV RX7 94 yX7_costEast cX7_costEast 4 (some .long) 3 7 := ⟨(in_3 (i := 106) rfl rfl), (in_3 (i := 107) rfl rfl), (in_3 (i := 108) rfl rfl), (in_1 (i := 4) rfl rfl), (in_3 (i := 109) rfl rfl), ⟨by decide +kernel, by decide +kernel, by decide +kernel⟩, _, _, rfl⟩
theorem v_X7_98 : MV RX7 98 yX7_costSouth cX7_costSouth 4 (some .long) 3 7 := ⟨(in_3 (i := 113) rfl rfl), (in_3 (i := 114) rfl rfl), (in_3 (i := 115) rfl rfl), (in_1 (i := 4) rfl rfl), (in_3 (i := 116) rfl rfl), ⟨by decide +kernel, by decide +kernel, by decide +kernel⟩, _, _, rfl⟩
theorem v_X8_32 : MV RX8 32 yX8_isRowEnd cX8_isRowEnd 3 (some .boolean) 2 8 := ⟨(in_2 (i := 144) rfl rfl), (in_2 (i := 145) rfl rfl), (in_2 (i := 146) rfl rfl), (in_1 (i := 3) rfl rfl), (in_2 (i := 147) rfl rfl), ⟨by decide +kernel, by decide +kernel, by decide +kernel⟩, _, _, rfl⟩
theorem f_X0_15 : FL RX0 15 0 1 := ⟨_, _, _, rfl, by decide, rfl, iw_0, (in_1 (i := 132) rfl rfl)⟩
theorem f_X0_24 : FL RX0 24 10 0 := ⟨_, _, _, rfl, by decide, rfl, iw_10, (in_1 (i := 32) rfl rfl)⟩
theorem f_X0_30 : FL RX0 30 10 1 := ⟨_, _, _, rfl, by decide, rfl, iw_10, (in_1 (i := 39) rfl rfl)⟩
theorem f_X0_9 : FL RX0 9 0 0 := ⟨_, _, _, rfl, by decide, rfl, iw_0, (in_1 (i := 131) rfl rfl)⟩
theorem f_X1_15 : FL RX1 15 1 1 := ⟨_, _, _, rfl, by decide, rfl, iw_1, (in_1 (i := 202) rfl rfl)⟩
theorem f_X1_21 : FL RX1 21 1 2 := ⟨_, _, _, rfl, by decide, rfl, iw_1, (in_1 (i := 203) rfl rfl)⟩
theorem f_X1_34 : FL RX1 34 9 2 := ⟨_, _, _, rfl, by decide, rfl, iw_9, (in_1 (i := 156) rfl rfl)⟩
theorem f_X1_48 : FL RX1 48 9 1 := ⟨_, _, _, rfl, by decide, rfl, iw_9, (in_1 (i := 152) rfl rfl)⟩
theorem f_X1_73 : FL RX1 73 3 1 := ⟨_, _, _, rfl, by decide, rfl, iw_3, (in_1 (i := 239) rfl rfl)⟩
theorem f_X1_82 : FL RX1 82 10 1 := ⟨_, _, _, rfl, by decide, rfl, iw_10, (in_1 (i := 42) rfl rfl)⟩
theorem f_X1_85 : FL RX1 85 10 0 := ⟨_, _, _, rfl, by decide, rfl, iw_10, (in_1 (i := 37) rfl rfl)⟩
theorem f_X1_9 : FL RX1 9 1 0 := ⟨_, _, _, rfl, by decide, rfl, iw_1, (in_1 (i := 200) rfl rfl)⟩
theorem f_X10_15 : FL RX10 15 10 3 := ⟨_, _, _, rfl, by decide, rfl, iw_10, (in_1 (i := 50) rfl rfl)⟩
theorem f_X10_19 : FL RX10 19 10 4 := ⟨_, _, _, rfl, by decide, rfl, iw_10, (in_1 (i := 53) rfl rfl)⟩
theorem f_X10_22 : FL RX10 22 10 0 := ⟨_, _, _, rfl, by decide, rfl, iw_10, (in_1 (i := 31) rfl rfl)⟩
theorem f_X10_26 : FL RX10 26 10 1 := ⟨_, _, _, rfl, by decide, rfl, iw_10, (in_1 (i := 38) rfl rfl)⟩
theorem f_X10_9 : FL RX10 9 10 2 := ⟨_, _, _, rfl, by decide, rfl, iw_10, (in_1 (i := 43) rfl rfl)⟩
theorem f_X11_10 : FL RX11 10 11 0 := ⟨_, _, _, rfl, by decide, rfl, iw_11, (in_2 (i := 31) rfl rfl)⟩
theorem f_X11_103 : FL RX11 103 8 2 := ⟨_, _, _, rfl, by decide, rfl, iw_8, (in_1 (i := 79) rfl rfl)⟩
theorem f_X11_114 : FL RX11 114 8 3 := ⟨_, _, _, rfl, by decide, rfl, iw_8, (in_1 (i := 80) rfl rfl)⟩
theorem f_X11_117 : FL RX11 117 8 4 := ⟨_, _, _, rfl, by decide, rfl, iw_8, (in_1 (i := 82) rfl rfl)⟩
theorem f_X11_141 : FL RX11 141 6 2 := ⟨_, _, _, rfl, by decide, rfl, iw_6, (in_2 (i := 18) rfl rfl)⟩
theorem f_X11_142 : FL RX11 142 6 3 := ⟨_, _, _, rfl, by decide, rfl, iw_6, (in_2 (i := 21) rfl rfl)⟩
theorem f_X11_146 : FL RX11 146 10 0 := ⟨_, _, _, rfl, by decide, rfl, iw_10, (in_1 (i := 35) rfl rfl)⟩
theorem f_X11_149 : FL RX11 149 10 1 := ⟨_, _, _, rfl, by decide, rfl, iw_10, (in_1 (i := 41) rfl rfl)⟩
theorem f_X11_167 : FL RX11 167 10 3 := ⟨_, _, _, rfl, by decide, rfl, iw_10, (in_1 (i := 52) rfl rfl)⟩
theorem f_X11_173 : FL RX11 173 10 4 := ⟨_, _, _, rfl, by decide, rfl, iw_10, (in_1 (i := 55) rfl rfl)⟩
theorem f_X11_186 : FL RX11 186 7 1 := ⟨_, _, _, rfl, by decide, rfl, iw_7, (in_1 (i := 103) rfl rfl)⟩
theorem f_X11_19 : FL RX11 19 11 1 := ⟨_, _, _, rfl, by decide, rfl, iw_11, (in_2 (i := 32) rfl rfl)⟩
theorem f_X11_211 : FL RX11 211 3 0 := ⟨_, _, _, rfl, by decide, rfl, iw_3, (in_1 (i := 235) rfl rfl)⟩
theorem f_X11_215 : FL RX11 215 3 1 := ⟨_, _, _, rfl, by decide, rfl, iw_3, (in_2 (i := 0) rfl rfl)⟩
theorem f_X11_250 : FL RX11 250 2 2 := ⟨_, _, _, rfl, by decide, rfl, iw_2, (in_1 (i := 169) rfl rfl)⟩
theorem f_X11_26 : FL RX11 26 11 2 := ⟨_, _, _, rfl, by decide, rfl, iw_11, (in_2 (i := 33) rfl rfl)⟩
theorem f_X11_263 : FL RX11 263 1 0 := ⟨_, _, _, rfl, by decide, rfl, iw_1, (in_1 (i := 201) rfl rfl)⟩
theorem f_X11_308 : FL RX11 308 4 0 := ⟨_, _, _, rfl, by decide, rfl, iw_4, (in_1 (i := 218) rfl rfl)⟩
theorem f_X11_321 : FL RX11 321 6 0 := ⟨_, _, _, rfl, by decide, rfl, iw_6, (in_2 (i := 13) rfl rfl)⟩
theorem f_X11_325 : FL RX11 325 6 1 := ⟨_, _, _, rfl, by decide, rfl, iw_6, (in_2 (i := 15) rfl rfl)⟩
theorem f_X11_33 : FL RX11 33 11 3 := ⟨_, _, _, rfl, by decide, rfl, iw_11, (in_2 (i := 34) rfl rfl)⟩
theorem f_X11_341 : FL RX11 341 10 2 := ⟨_, _, _, rfl, by decide, rfl, iw_10, (in_1 (i := 49) rfl rfl)⟩
theorem f_X11_40 : FL RX11 40 11 4 := ⟨_, _, _, rfl, by decide, rfl, iw_11, (in_2 (i := 35) rfl rfl)⟩
theorem f_X11_47 : FL RX11 47 11 5 := ⟨_, _, _, rfl, by decide, rfl, iw_11, (in_2 (i := 36) rfl rfl)⟩
theorem f_X11_54 : FL RX11 54 11 6 := ⟨_, _, _, rfl, by decide, rfl, iw_11, (in_2 (i := 37) rfl rfl)⟩
theorem f_X11_61 : FL RX11 61 11 7 := ⟨_, _, _, rfl, by decide, rfl, iw_11, (in_2 (i := 38) rfl rfl)⟩
theorem f_X11_67 : FL RX11 67 11 8 := ⟨_, _, _, rfl, by decide, rfl, iw_11, (in_2 (i := 39) rfl rfl)⟩
theorem f_X11_73 : FL RX11 73 11 9 := ⟨_, _, _, rfl, by decide, rfl, iw_11, (in_2 (i := 40) rfl rfl)⟩
theorem f_X12_13 : FL RX12 13 12 3 := ⟨_, _, _, rfl, by decide, rfl, iw_12, (in_4 (i := 191) rfl rfl)⟩
theorem f_X12_130 : FL RX12 130 12 8 := ⟨_, _, _, rfl, by decide, rfl, iw_12, (in_4 (i := 196) rfl rfl)⟩
theorem f_X12_133 : FL RX12 133 12 9 := ⟨_, _, _, rfl, by decide, rfl, iw_12, (in_4 (i := 197) rfl rfl)⟩
theorem f_X12_17 : FL RX12 17 12 4 := ⟨_, _, _, rfl, by decide, rfl, iw_12, (in_4 (i := 192) rfl rfl)⟩
theorem f_X12_20 : FL RX12 20 12 5 := ⟨_, _, _, rfl, by decide, rfl, iw_12, (in_4 (i := 193) rfl rfl)⟩
theorem f_X12_23 : FL RX12 23 12 6 := ⟨_, _, _, rfl, by decide, rfl, iw_12, (in_4 (i := 194) rfl rfl)⟩
theorem f_X12_26 : FL RX12 26 12 7 := ⟨_, _, _, rfl, by decide, rfl, iw_12, (in_4 (i := 195) rfl rfl)⟩
theorem f_X12_29 : FL RX12 29 12 10 := ⟨_, _, _, rfl, by decide, rfl, iw_12, (in_4 (i := 198) rfl rfl)⟩
theorem f_X12_32 : FL RX12 32 12 11 := ⟨_, _, _, rfl, by decide, rfl, iw_12, (in_4 (i := 199) rfl rfl)⟩
theorem f_X12_35 : FL RX12 35 12 12 := ⟨_, _, _, rfl, by decide, rfl, iw_12, (in_4 (i := 200) rfl rfl)⟩
theorem f_X12_39 : FL RX12 39 12 13 := ⟨_, _, _, rfl, by decide, rfl, iw_12, (in_4 (i := 201) rfl rfl)⟩
theorem f_X12_42 : FL RX12 42 12 14 := ⟨_, _, _, rfl, by decide, rfl, iw_12, (in_4 (i := 202) rfl rfl)⟩
theorem f_X12_45 : FL RX12 45 12 15 := ⟨_, _, _, rfl, by decide, rfl, iw_12, (in_4 (i := 203) rfl rfl)⟩
theorem f_X12_48 : FL RX12 48 12 16 := ⟨_, _, _, rfl, by decide, rfl, iw_12, (in_4 (i := 204) rfl rfl)⟩
theorem f_X12_51 : FL RX12 51 12 17 := ⟨_, _, _, rfl, by decide, rfl, iw_12, (in_4 (i := 205) rfl rfl)⟩
theorem f_X12_54 : FL RX12 54 12 18 := ⟨_, _, _, rfl, by decide, rfl, iw_12, (in_4 (i := 206) rfl rfl)⟩
theorem f_X12_57 : FL RX12 57 12 19 := ⟨_, _, _, rfl, by decide, rfl, iw_12, (in_4 (i := 207) rfl rfl)⟩
theorem f_X12_60 : FL RX12 60 12 20 := ⟨_, _, _, rfl, by decide, rfl, iw_12, (in_4 (i := 208) rfl rfl)⟩
theorem f_X12_63 : FL RX12 63 12 21 := ⟨_, _, _, rfl, by decide, rfl, iw_12, (in_4 (i := 209) rfl rfl)⟩
theorem f_X12_66 : FL RX12 66 12 22 := ⟨_, _, _, rfl, by decide, rfl, iw_12, (in_4 (i := 210) rfl rfl)⟩
theorem f_X12_69 : FL RX12 69 12 23 := ⟨_, _, _, rfl, by decide, rfl, iw_12, (in_4 (i := 211) rfl rfl)⟩
theorem f_X12_7 : FL RX12 7 12 2 := ⟨_, _, _, rfl, by decide, rfl, iw_12, (in_4 (i := 190) rfl rfl)⟩
theorem f_X12_72 : FL RX12 72 12 24 := ⟨_, _, _, rfl, by decide, rfl, iw_12, (in_4 (i := 212) rfl rfl)⟩
theorem f_X12_75 : FL RX12 75 12 25 := ⟨_, _, _, rfl, by decide, rfl, iw_12, (in_4 (i := 213) rfl rfl)⟩
theorem f_X12_78 : FL RX12 78 12 26 := ⟨_, _, _, rfl, by decide, rfl, iw_12, (in_4 (i := 214) rfl rfl)⟩
theorem f_X12_81 : FL RX12 81 12 27 := ⟨_, _, _, rfl, by decide, rfl, iw_12, (in_4 (i := 215) rfl rfl)⟩
theorem f_X12_88 : FL RX12 88 12 0 := ⟨_, _, _, rfl, by decide, rfl, iw_12, (in_4 (i := 188) rfl rfl)⟩
theorem f_X12_92 : FL RX12 92 12 1 := ⟨_, _, _, rfl, by decide, rfl, iw_12, (in_4 (i := 189) rfl rfl)⟩
theorem f_X2_15 : FL RX2 15 2 1 := ⟨_, _, _, rfl, by decide, rfl, iw_2, (in_1 (i := 167) rfl rfl)⟩
theorem f_X2_18 : FL RX2 18 2 2 := ⟨_, _, _, rfl, by decide, rfl, iw_2, (in_1 (i := 168) rfl rfl)⟩
theorem f_X2_24 : FL RX2 24 2 3 := ⟨_, _, _, rfl, by decide, rfl, iw_2, (in_1 (i := 170) rfl rfl)⟩
theorem f_X2_40 : FL RX2 40 10 2 := ⟨_, _, _, rfl, by decide, rfl, iw_10, (in_1 (i := 44) rfl rfl)⟩
theorem f_X2_62 : FL RX2 62 9 2 := ⟨_, _, _, rfl, by decide, rfl, iw_9, (in_1 (i := 158) rfl rfl)⟩
theorem f_X2_66 : FL RX2 66 9 1 := ⟨_, _, _, rfl, by decide, rfl, iw_9, (in_1 (i := 153) rfl rfl)⟩
theorem f_X2_9 : FL RX2 9 2 0 := ⟨_, _, _, rfl, by decide, rfl, iw_2, (in_1 (i := 166) rfl rfl)⟩
theorem f_X3_31 : FL RX3 31 6 2 := ⟨_, _, _, rfl, by decide, rfl, iw_6, (in_2 (i := 17) rfl rfl)⟩
theorem f_X3_37 : FL RX3 37 6 3 := ⟨_, _, _, rfl, by decide, rfl, iw_6, (in_2 (i := 20) rfl rfl)⟩
theorem f_X3_52 : FL RX3 52 10 2 := ⟨_, _, _, rfl, by decide, rfl, iw_10, (in_1 (i := 47) rfl rfl)⟩
theorem f_X3_63 : FL RX3 63 10 4 := ⟨_, _, _, rfl, by decide, rfl, iw_10, (in_1 (i := 54) rfl rfl)⟩
theorem f_X3_66 : FL RX3 66 10 0 := ⟨_, _, _, rfl, by decide, rfl, iw_10, (in_1 (i := 34) rfl rfl)⟩
theorem f_X3_9 : FL RX3 9 3 1 := ⟨_, _, _, rfl, by decide, rfl, iw_3, (in_1 (i := 237) rfl rfl)⟩
theorem f_X4_15 : FL RX4 15 4 1 := ⟨_, _, _, rfl, by decide, rfl, iw_4, (in_1 (i := 219) rfl rfl)⟩
theorem f_X4_30 : FL RX4 30 10 2 := ⟨_, _, _, rfl, by decide, rfl, iw_10, (in_1 (i := 45) rfl rfl)⟩
theorem f_X4_34 : FL RX4 34 3 1 := ⟨_, _, _, rfl, by decide, rfl, iw_3, (in_1 (i := 238) rfl rfl)⟩
theorem f_X4_9 : FL RX4 9 4 0 := ⟨_, _, _, rfl, by decide, rfl, iw_4, (in_1 (i := 217) rfl rfl)⟩
theorem f_X5_12 : FL RX5 12 5 0 := ⟨_, _, _, rfl, by decide, rfl, iw_5, (in_1 (i := 188) rfl rfl)⟩
theorem f_X5_37 : FL RX5 37 9 2 := ⟨_, _, _, rfl, by decide, rfl, iw_9, (in_1 (i := 157) rfl rfl)⟩
theorem f_X5_41 : FL RX5 41 10 2 := ⟨_, _, _, rfl, by decide, rfl, iw_10, (in_1 (i := 46) rfl rfl)⟩
theorem f_X5_49 : FL RX5 49 9 1 := ⟨_, _, _, rfl, by decide, rfl, iw_9, (in_1 (i := 154) rfl rfl)⟩
theorem f_X5_64 : FL RX5 64 10 0 := ⟨_, _, _, rfl, by decide, rfl, iw_10, (in_1 (i := 33) rfl rfl)⟩
theorem f_X5_67 : FL RX5 67 10 1 := ⟨_, _, _, rfl, by decide, rfl, iw_10, (in_1 (i := 40) rfl rfl)⟩
theorem f_X6_19 : FL RX6 19 6 1 := ⟨_, _, _, rfl, by decide, rfl, iw_6, (in_2 (i := 14) rfl rfl)⟩
theorem f_X6_23 : FL RX6 23 6 2 := ⟨_, _, _, rfl, by decide, rfl, iw_6, (in_2 (i := 16) rfl rfl)⟩
theorem f_X6_9 : FL RX6 9 6 3 := ⟨_, _, _, rfl, by decide, rfl, iw_6, (in_2 (i := 19) rfl rfl)⟩
theorem f_X7_111 : FL RX7 111 10 4 := ⟨_, _, _, rfl, by decide, rfl, iw_10, (in_1 (i := 56) rfl rfl)⟩
theorem f_X7_132 : FL RX7 132 3 1 := ⟨_, _, _, rfl, by decide, rfl, iw_3, (in_2 (i := 1) rfl rfl)⟩
theorem f_X7_15 : FL RX7 15 7 1 := ⟨_, _, _, rfl, by decide, rfl, iw_7, (in_1 (i := 102) rfl rfl)⟩
theorem f_X7_18 : FL RX7 18 7 2 := ⟨_, _, _, rfl, by decide, rfl, iw_7, (in_1 (i := 104) rfl rfl)⟩
theorem f_X7_22 : FL RX7 22 7 3 := ⟨_, _, _, rfl, by decide, rfl, iw_7, (in_1 (i := 105) rfl rfl)⟩
theorem f_X7_25 : FL RX7 25 7 4 := ⟨_, _, _, rfl, by decide, rfl, iw_7, (in_1 (i := 106) rfl rfl)⟩
theorem f_X7_28 : FL RX7 28 7 5 := ⟨_, _, _, rfl, by decide, rfl, iw_7, (in_1 (i := 107) rfl rfl)⟩
theorem f_X7_32 : FL RX7 32 7 6 := ⟨_, _, _, rfl, by decide, rfl, iw_7, (in_1 (i := 108) rfl rfl)⟩
theorem f_X7_53 : FL RX7 53 10 3 := ⟨_, _, _, rfl, by decide, rfl, iw_10, (in_1 (i := 51) rfl rfl)⟩
theorem f_X7_85 : FL RX7 85 10 0 := ⟨_, _, _, rfl, by decide, rfl, iw_10, (in_1 (i := 36) rfl rfl)⟩
theorem f_X7_9 : FL RX7 9 7 0 := ⟨_, _, _, rfl, by decide, rfl, iw_7, (in_1 (i := 101) rfl rfl)⟩
theorem f_X7_91 : FL RX7 91 10 2 := ⟨_, _, _, rfl, by decide, rfl, iw_10, (in_1 (i := 48) rfl rfl)⟩
theorem f_X8_15 : FL RX8 15 8 1 := ⟨_, _, _, rfl, by decide, rfl, iw_8, (in_1 (i := 77) rfl rfl)⟩
theorem f_X8_25 : FL RX8 25 8 2 := ⟨_, _, _, rfl, by decide, rfl, iw_8, (in_1 (i := 78) rfl rfl)⟩
theorem f_X8_29 : FL RX8 29 8 3 := ⟨_, _, _, rfl, by decide, rfl, iw_8, (in_1 (i := 81) rfl rfl)⟩
theorem f_X8_9 : FL RX8 9 8 0 := ⟨_, _, _, rfl, by decide, rfl, iw_8, (in_1 (i := 76) rfl rfl)⟩
theorem f_X9_15 : FL RX9 15 9 1 := ⟨_, _, _, rfl, by decide, rfl, iw_9, (in_1 (i := 151) rfl rfl)⟩
theorem f_X9_19 : FL RX9 19 9 2 := ⟨_, _, _, rfl, by decide, rfl, iw_9, (in_1 (i := 155) rfl rfl)⟩
theorem f_X9_9 : FL RX9 9 9 0 := ⟨_, _, _, rfl, by decide, rfl, iw_9, (in_1 (i := 150) rfl rfl)⟩
theorem k_X12_198 : Cond.constant RX12 198 (Int32.ofInt 1000000) ∈ gtb := (in_5 (i := 184) rfl rfl)
theorem kl_X11_180 : Cond.constantLong RX11 180 (-1) ∈ gtb := (in_3 (i := 12) rfl rfl)
theorem kl_X11_221 : Cond.constantLong RX11 221 (1099511627776) ∈ gtb := (in_3 (i := 117) rfl rfl)
theorem kl_X12_124 : Cond.constantLong RX12 124 (255) ∈ gtb := (in_5 (i := 61) rfl rfl)
theorem kl_X12_126 : Cond.constantLong RX12 126 (32) ∈ gtb := (in_5 (i := 62) rfl rfl)
theorem kl_X12_128 : Cond.constantLong RX12 128 (126) ∈ gtb := (in_5 (i := 63) rfl rfl)
theorem kl_X12_156 : Cond.constantLong RX12 156 (2) ∈ gtb := (in_5 (i := 111) rfl rfl)
theorem kl_X12_158 : Cond.constantLong RX12 158 (999) ∈ gtb := (in_5 (i := 116) rfl rfl)
theorem kl_X12_181 : Cond.constantLong RX12 181 (-1) ∈ gtb := (in_5 (i := 149) rfl rfl)
theorem kl_X12_186 : Cond.constantLong RX12 186 (3) ∈ gtb := (in_5 (i := 83) rfl rfl)
theorem kl_X12_194 : Cond.constantLong RX12 194 (-4) ∈ gtb := (in_5 (i := 170) rfl rfl)
theorem kl_X12_196 : Cond.constantLong RX12 196 (-2) ∈ gtb := (in_5 (i := 171) rfl rfl)
theorem kl_X12_98 : Cond.constantLong RX12 98 (8) ∈ gtb := (in_5 (i := 37) rfl rfl)
theorem kl_X7_135 : Cond.constantLong RX7 135 (-2) ∈ gtb := (in_3 (i := 79) rfl rfl)
theorem kl_X7_80 : Cond.constantLong RX7 80 (1099511627776) ∈ gtb := (in_3 (i := 101) rfl rfl)
theorem kl_X8_19 : Cond.constantLong RX8 19 (255) ∈ gtb := (in_2 (i := 131) rfl rfl)
theorem ma_X1_103 : Cond.methodLink RX1 103 Lib.Math.abs.name ∈ gtb := (in_4 (i := 72) rfl rfl)
theorem mc_X11_331 : Cond.methodLink RX11 331 arraycopyName ∈ gtb := (in_4 (i := 173) rfl rfl)
theorem mc_X3_25 : Cond.methodLink RX3 25 arraycopyName ∈ gtb := (in_3 (i := 143) rfl rfl)
theorem mm_X7_101 : Cond.methodLink RX7 101 Lib.MathLoose.min_long.x ∈ gtb := (in_3 (i := 110) rfl rfl)
theorem p_X0_15 : FP RX0 15 0 1 (.array .long) := ⟨_, _, _, tyX0, rfl, by decide, rfl, iw_0, (in_1 (i := 132) rfl rfl), tyX0_ok, nmX0, rfl, by decide +kernel⟩
theorem p_X0_9 : FP RX0 9 0 0 (.array .long) := ⟨_, _, _, tyX0, rfl, by decide, rfl, iw_0, (in_1 (i := 131) rfl rfl), tyX0_ok, nmX0, rfl, by decide +kernel⟩
theorem p_X10_22 : FP RX10 22 10 0 .int := ⟨_, _, _, tyX10, rfl, by decide, rfl, iw_10, (in_1 (i := 31) rfl rfl), tyX10_ok, nmX10, rfl, by decide +kernel⟩
theorem p_X10_26 : FP RX10 26 10 1 .int := ⟨_, _, _, tyX10, rfl, by decide, rfl, iw_10, (in_1 (i := 38) rfl rfl), tyX10_ok, nmX10, rfl, by decide +kernel⟩
theorem p_X11_103 : FP RX11 103 8 2 .int := ⟨_, _, _, tyX8, rfl, by decide, rfl, iw_8, (in_1 (i := 79) rfl rfl), tyX8_ok, nmX8, rfl, by decide +kernel⟩
theorem p_X11_211 : FP RX11 211 3 0 .boolean := ⟨_, _, _, tyX3, rfl, by decide, rfl, iw_3, (in_1 (i := 235) rfl rfl), tyX3_ok, nmX3, rfl, by decide +kernel⟩
theorem p_X11_321 : FP RX11 321 6 0 .boolean := ⟨_, _, _, tyX6, rfl, by decide, rfl, iw_6, (in_2 (i := 13) rfl rfl), tyX6_ok, nmX6, rfl, by decide +kernel⟩
theorem p_X12_130 : FP RX12 130 12 8 .int := ⟨_, _, _, tyX12, rfl, by decide, rfl, iw_12, (in_4 (i := 196) rfl rfl), tyX12_ok, nmX12, rfl, by decide +kernel⟩
theorem p_X12_133 : FP RX12 133 12 9 .int := ⟨_, _, _, tyX12, rfl, by decide, rfl, iw_12, (in_4 (i := 197) rfl rfl), tyX12_ok, nmX12, rfl, by decide +kernel⟩
theorem p_X12_88 : FP RX12 88 12 0 .int := ⟨_, _, _, tyX12, rfl, by decide, rfl, iw_12, (in_4 (i := 188) rfl rfl), tyX12_ok, nmX12, rfl, by decide +kernel⟩
theorem p_X12_92 : FP RX12 92 12 1 .int := ⟨_, _, _, tyX12, rfl, by decide, rfl, iw_12, (in_4 (i := 189) rfl rfl), tyX12_ok, nmX12, rfl, by decide +kernel⟩
theorem p_X3_21 : FP RX3 21 3 0 .boolean := ⟨_, _, _, tyX3, rfl, by decide, rfl, iw_3, (in_1 (i := 234) rfl rfl), tyX3_ok, nmX3, rfl, by decide +kernel⟩
theorem p_X6_15 : FP RX6 15 6 0 .boolean := ⟨_, _, _, tyX6, rfl, by decide, rfl, iw_6, (in_2 (i := 12) rfl rfl), tyX6_ok, nmX6, rfl, by decide +kernel⟩
theorem p_X6_19 : FP RX6 19 6 1 .int := ⟨_, _, _, tyX6, rfl, by decide, rfl, iw_6, (in_2 (i := 14) rfl rfl), tyX6_ok, nmX6, rfl, by decide +kernel⟩
theorem p_X6_23 : FP RX6 23 6 2 .int := ⟨_, _, _, tyX6, rfl, by decide, rfl, iw_6, (in_2 (i := 16) rfl rfl), tyX6_ok, nmX6, rfl, by decide +kernel⟩
theorem p_X7_129 : FP RX7 129 3 0 .boolean := ⟨_, _, _, tyX3, rfl, by decide, rfl, iw_3, (in_1 (i := 236) rfl rfl), tyX3_ok, nmX3, rfl, by decide +kernel⟩
theorem p_X7_22 : FP RX7 22 7 3 (.array .long) := ⟨_, _, _, tyX7, rfl, by decide, rfl, iw_7, (in_1 (i := 105) rfl rfl), tyX7_ok, nmX7, rfl, by decide +kernel⟩
theorem p_X7_25 : FP RX7 25 7 4 (.array .long) := ⟨_, _, _, tyX7, rfl, by decide, rfl, iw_7, (in_1 (i := 106) rfl rfl), tyX7_ok, nmX7, rfl, by decide +kernel⟩
theorem p_X7_28 : FP RX7 28 7 5 .int := ⟨_, _, _, tyX7, rfl, by decide, rfl, iw_7, (in_1 (i := 107) rfl rfl), tyX7_ok, nmX7, rfl, by decide +kernel⟩
theorem p_X7_32 : FP RX7 32 7 6 .boolean := ⟨_, _, _, tyX7, rfl, by decide, rfl, iw_7, (in_1 (i := 108) rfl rfl), tyX7_ok, nmX7, rfl, by decide +kernel⟩
theorem p_X8_25 : FP RX8 25 8 2 .int := ⟨_, _, _, tyX8, rfl, by decide, rfl, iw_8, (in_1 (i := 78) rfl rfl), tyX8_ok, nmX8, rfl, by decide +kernel⟩
theorem p_X8_29 : FP RX8 29 8 3 .int := ⟨_, _, _, tyX8, rfl, by decide, rfl, iw_8, (in_1 (i := 81) rfl rfl), tyX8_ok, nmX8, rfl, by decide +kernel⟩
theorem p_X8_36 : FP RX8 36 8 4 .int := ⟨_, _, _, tyX8, rfl, by decide, rfl, iw_8, (in_1 (i := 83) rfl rfl), tyX8_ok, nmX8, rfl, by decide +kernel⟩
theorem p_X9_19 : FP RX9 19 9 2 .int := ⟨_, _, _, tyX9, rfl, by decide, rfl, iw_9, (in_1 (i := 155) rfl rfl), tyX9_ok, nmX9, rfl, by decide +kernel⟩
