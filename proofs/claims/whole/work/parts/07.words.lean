theorem zW_all (ws : List Cond) (ps : List Nat) (hp : ws = ps.filterMap (fun i => lw_tbl[i]?)) (h : ws.all goodWord = true) : ∀ w ∈ ws, w ∈ zW := by
  intro w hw
  have h1 := List.all_eq_true.mp h w hw
  rw [hp] at hw
  obtain ⟨i, -, hi⟩ := List.mem_filterMap.mp hw
  exact List.mem_filter.mpr ⟨List.mem_of_getElem? hi, h1⟩
theorem ziX0 : ∀ w ∈ u_ws RX0 TX0 4, w ∈ zW := zW_all _ [122, 124, 126, 128] (by decide +kernel) (by decide +kernel)
theorem zfi_0_3 : zFi 0 3 := ⟨RX0, TX0, 4, rfl, rfl, by decide +kernel⟩
theorem ziX1 : ∀ w ∈ u_ws RX1 TX1 11, w ∈ zW := zW_all _ [87, 89, 91, 93, 95, 97, 99, 101, 103, 105, 107] (by decide +kernel) (by decide +kernel)
theorem zfi_1_9 : zFi 1 9 := ⟨RX1, TX1, 11, rfl, rfl, by decide +kernel⟩
theorem zfi_1_10 : zFi 1 10 := ⟨RX1, TX1, 11, rfl, rfl, by decide +kernel⟩
theorem ziX2 : ∀ w ∈ u_ws RX2 TX2 2, w ∈ zW := zW_all _ [139, 141] (by decide +kernel) (by decide +kernel)
theorem ziX3 : ∀ w ∈ u_ws RX3 TX3 2, w ∈ zW := zW_all _ [155, 157] (by decide +kernel) (by decide +kernel)
theorem zfi_3_1 : zFi 3 1 := ⟨RX3, TX3, 2, rfl, rfl, by decide +kernel⟩
theorem ziX4 : ∀ w ∈ u_ws RX4 TX4 3, w ∈ zW := zW_all _ [173, 175, 177] (by decide +kernel) (by decide +kernel)
theorem zfi_4_1 : zFi 4 1 := ⟨RX4, TX4, 3, rfl, rfl, by decide +kernel⟩
theorem zfi_4_2 : zFi 4 2 := ⟨RX4, TX4, 3, rfl, rfl, by decide +kernel⟩
theorem ziX5 : ∀ w ∈ u_ws RX5 TX5 9, w ∈ zW := zW_all _ [190, 192, 194, 196, 198, 200, 202, 204, 206] (by decide +kernel) (by decide +kernel)
theorem ziX6 : ∀ w ∈ u_ws RX6 TX6 18, w ∈ zW := zW_all _ [587, 589, 591, 593, 595, 597, 599, 601, 603, 605, 607, 609, 611, 613, 615, 617, 619, 621] (by decide +kernel) (by decide +kernel)
theorem zfi_6_0 : zFi 6 0 := ⟨RX6, TX6, 18, rfl, rfl, by decide +kernel⟩
theorem zfi_6_2 : zFi 6 2 := ⟨RX6, TX6, 18, rfl, rfl, by decide +kernel⟩
theorem zfi_6_6 : zFi 6 6 := ⟨RX6, TX6, 18, rfl, rfl, by decide +kernel⟩
theorem zfi_6_12 : zFi 6 12 := ⟨RX6, TX6, 18, rfl, rfl, by decide +kernel⟩
theorem zfl_RX1_9 : zFl RX1 9 1 0 := ⟨RX1, TX1, 11, tyX1, rfl, ziX1, by decide, zW_mem 63 (by decide +kernel) rfl, rfl, tyX1_ok, nmX1⟩
theorem zfl_RX5_86 : zFl RX5 86 1 0 := ⟨RX1, TX1, 11, tyX1, rfl, ziX1, by decide, zW_mem 64 (by decide +kernel) rfl, rfl, tyX1_ok, nmX1⟩
theorem zfl_RX1_15 : zFl RX1 15 1 1 := ⟨RX1, TX1, 11, tyX1, rfl, ziX1, by decide, zW_mem 65 (by decide +kernel) rfl, rfl, tyX1_ok, nmX1⟩
theorem zfl_RX2_28 : zFl RX2 28 1 1 := ⟨RX1, TX1, 11, tyX1, rfl, ziX1, by decide, zW_mem 66 (by decide +kernel) rfl, rfl, tyX1_ok, nmX1⟩
theorem zfl_RX5_160 : zFl RX5 160 1 1 := ⟨RX1, TX1, 11, tyX1, rfl, ziX1, by decide, zW_mem 67 (by decide +kernel) rfl, rfl, tyX1_ok, nmX1⟩
theorem zfl_RX1_18 : zFl RX1 18 1 2 := ⟨RX1, TX1, 11, tyX1, rfl, ziX1, by decide, zW_mem 68 (by decide +kernel) rfl, rfl, tyX1_ok, nmX1⟩
theorem zfl_RX2_36 : zFl RX2 36 1 2 := ⟨RX1, TX1, 11, tyX1, rfl, ziX1, by decide, zW_mem 69 (by decide +kernel) rfl, rfl, tyX1_ok, nmX1⟩
theorem zfl_RX5_101 : zFl RX5 101 1 2 := ⟨RX1, TX1, 11, tyX1, rfl, ziX1, by decide, zW_mem 70 (by decide +kernel) rfl, rfl, tyX1_ok, nmX1⟩
theorem zfl_RX1_21 : zFl RX1 21 1 3 := ⟨RX1, TX1, 11, tyX1, rfl, ziX1, by decide, zW_mem 71 (by decide +kernel) rfl, rfl, tyX1_ok, nmX1⟩
theorem zfl_RX2_39 : zFl RX2 39 1 3 := ⟨RX1, TX1, 11, tyX1, rfl, ziX1, by decide, zW_mem 72 (by decide +kernel) rfl, rfl, tyX1_ok, nmX1⟩
theorem zfl_RX5_114 : zFl RX5 114 1 3 := ⟨RX1, TX1, 11, tyX1, rfl, ziX1, by decide, zW_mem 73 (by decide +kernel) rfl, rfl, tyX1_ok, nmX1⟩
theorem zfl_RX1_24 : zFl RX1 24 1 4 := ⟨RX1, TX1, 11, tyX1, rfl, ziX1, by decide, zW_mem 74 (by decide +kernel) rfl, rfl, tyX1_ok, nmX1⟩
theorem zfl_RX5_123 : zFl RX5 123 1 4 := ⟨RX1, TX1, 11, tyX1, rfl, ziX1, by decide, zW_mem 75 (by decide +kernel) rfl, rfl, tyX1_ok, nmX1⟩
theorem zfl_RX1_27 : zFl RX1 27 1 5 := ⟨RX1, TX1, 11, tyX1, rfl, ziX1, by decide, zW_mem 76 (by decide +kernel) rfl, rfl, tyX1_ok, nmX1⟩
theorem zfl_RX5_126 : zFl RX5 126 1 5 := ⟨RX1, TX1, 11, tyX1, rfl, ziX1, by decide, zW_mem 77 (by decide +kernel) rfl, rfl, tyX1_ok, nmX1⟩
theorem zfl_RX1_30 : zFl RX1 30 1 6 := ⟨RX1, TX1, 11, tyX1, rfl, ziX1, by decide, zW_mem 78 (by decide +kernel) rfl, rfl, tyX1_ok, nmX1⟩
theorem zfl_RX1_33 : zFl RX1 33 1 7 := ⟨RX1, TX1, 11, tyX1, rfl, ziX1, by decide, zW_mem 79 (by decide +kernel) rfl, rfl, tyX1_ok, nmX1⟩
theorem zfl_RX2_33 : zFl RX2 33 1 7 := ⟨RX1, TX1, 11, tyX1, rfl, ziX1, by decide, zW_mem 80 (by decide +kernel) rfl, rfl, tyX1_ok, nmX1⟩
theorem zfl_RX5_163 : zFl RX5 163 1 7 := ⟨RX1, TX1, 11, tyX1, rfl, ziX1, by decide, zW_mem 81 (by decide +kernel) rfl, rfl, tyX1_ok, nmX1⟩
theorem zfl_RX1_36 : zFl RX1 36 1 8 := ⟨RX1, TX1, 11, tyX1, rfl, ziX1, by decide, zW_mem 82 (by decide +kernel) rfl, rfl, tyX1_ok, nmX1⟩
theorem zfl_RX1_45 : zFl RX1 45 1 9 := ⟨RX1, TX1, 11, tyX1, rfl, ziX1, by decide, zW_mem 83 (by decide +kernel) rfl, rfl, tyX1_ok, nmX1⟩
theorem zfl_RX5_64 : zFl RX5 64 1 9 := ⟨RX1, TX1, 11, tyX1, rfl, ziX1, by decide, zW_mem 84 (by decide +kernel) rfl, rfl, tyX1_ok, nmX1⟩
theorem zfl_RX1_59 : zFl RX1 59 1 10 := ⟨RX1, TX1, 11, tyX1, rfl, ziX1, by decide, zW_mem 85 (by decide +kernel) rfl, rfl, tyX1_ok, nmX1⟩
theorem zfl_RX5_148 : zFl RX5 148 1 10 := ⟨RX1, TX1, 11, tyX1, rfl, ziX1, by decide, zW_mem 86 (by decide +kernel) rfl, rfl, tyX1_ok, nmX1⟩
theorem zfl_RX0_9 : zFl RX0 9 0 0 := ⟨RX0, TX0, 4, tyX0, rfl, ziX0, by decide, zW_mem 117 (by decide +kernel) rfl, rfl, tyX0_ok, nmX0⟩
theorem zfl_RX0_13 : zFl RX0 13 0 1 := ⟨RX0, TX0, 4, tyX0, rfl, ziX0, by decide, zW_mem 118 (by decide +kernel) rfl, rfl, tyX0_ok, nmX0⟩
theorem zfl_RX0_16 : zFl RX0 16 0 2 := ⟨RX0, TX0, 4, tyX0, rfl, ziX0, by decide, zW_mem 119 (by decide +kernel) rfl, rfl, tyX0_ok, nmX0⟩
theorem zfl_RX0_19 : zFl RX0 19 0 3 := ⟨RX0, TX0, 4, tyX0, rfl, ziX0, by decide, zW_mem 120 (by decide +kernel) rfl, rfl, tyX0_ok, nmX0⟩
theorem zfl_RX5_93 : zFl RX5 93 0 3 := ⟨RX0, TX0, 4, tyX0, rfl, ziX0, by decide, zW_mem 121 (by decide +kernel) rfl, rfl, tyX0_ok, nmX0⟩
theorem zfl_RX2_9 : zFl RX2 9 2 0 := ⟨RX2, TX2, 2, tyX2, rfl, ziX2, by decide, zW_mem 137 (by decide +kernel) rfl, rfl, tyX2_ok, nmX2⟩
theorem zfl_RX2_15 : zFl RX2 15 2 1 := ⟨RX2, TX2, 2, tyX2, rfl, ziX2, by decide, zW_mem 138 (by decide +kernel) rfl, rfl, tyX2_ok, nmX2⟩
theorem zfl_RX3_9 : zFl RX3 9 3 0 := ⟨RX3, TX3, 2, tyX3, rfl, ziX3, by decide, zW_mem 151 (by decide +kernel) rfl, rfl, tyX3_ok, nmX3⟩
theorem zfl_RX5_138 : zFl RX5 138 3 0 := ⟨RX3, TX3, 2, tyX3, rfl, ziX3, by decide, zW_mem 152 (by decide +kernel) rfl, rfl, tyX3_ok, nmX3⟩
theorem zfl_RX3_15 : zFl RX3 15 3 1 := ⟨RX3, TX3, 2, tyX3, rfl, ziX3, by decide, zW_mem 153 (by decide +kernel) rfl, rfl, tyX3_ok, nmX3⟩
theorem zfl_RX5_137 : zFl RX5 137 3 1 := ⟨RX3, TX3, 2, tyX3, rfl, ziX3, by decide, zW_mem 154 (by decide +kernel) rfl, rfl, tyX3_ok, nmX3⟩
theorem zfl_RX4_9 : zFl RX4 9 4 0 := ⟨RX4, TX4, 3, tyX4, rfl, ziX4, by decide, zW_mem 167 (by decide +kernel) rfl, rfl, tyX4_ok, nmX4⟩
theorem zfl_RX5_241 : zFl RX5 241 4 0 := ⟨RX4, TX4, 3, tyX4, rfl, ziX4, by decide, zW_mem 168 (by decide +kernel) rfl, rfl, tyX4_ok, nmX4⟩
theorem zfl_RX4_25 : zFl RX4 25 4 1 := ⟨RX4, TX4, 3, tyX4, rfl, ziX4, by decide, zW_mem 169 (by decide +kernel) rfl, rfl, tyX4_ok, nmX4⟩
theorem zfl_RX5_238 : zFl RX5 238 4 1 := ⟨RX4, TX4, 3, tyX4, rfl, ziX4, by decide, zW_mem 170 (by decide +kernel) rfl, rfl, tyX4_ok, nmX4⟩
theorem zfl_RX4_15 : zFl RX4 15 4 2 := ⟨RX4, TX4, 3, tyX4, rfl, ziX4, by decide, zW_mem 171 (by decide +kernel) rfl, rfl, tyX4_ok, nmX4⟩
theorem zfl_RX5_227 : zFl RX5 227 4 2 := ⟨RX4, TX4, 3, tyX4, rfl, ziX4, by decide, zW_mem 172 (by decide +kernel) rfl, rfl, tyX4_ok, nmX4⟩
theorem zfl_RX5_12 : zFl RX5 12 5 0 := ⟨RX5, TX5, 9, tyX5, rfl, ziX5, by decide, zW_mem 181 (by decide +kernel) rfl, rfl, tyX5_ok, nmX5⟩
theorem zfl_RX5_16 : zFl RX5 16 5 1 := ⟨RX5, TX5, 9, tyX5, rfl, ziX5, by decide, zW_mem 182 (by decide +kernel) rfl, rfl, tyX5_ok, nmX5⟩
theorem zfl_RX5_22 : zFl RX5 22 5 2 := ⟨RX5, TX5, 9, tyX5, rfl, ziX5, by decide, zW_mem 183 (by decide +kernel) rfl, rfl, tyX5_ok, nmX5⟩
theorem zfl_RX5_29 : zFl RX5 29 5 3 := ⟨RX5, TX5, 9, tyX5, rfl, ziX5, by decide, zW_mem 184 (by decide +kernel) rfl, rfl, tyX5_ok, nmX5⟩
theorem zfl_RX5_35 : zFl RX5 35 5 4 := ⟨RX5, TX5, 9, tyX5, rfl, ziX5, by decide, zW_mem 185 (by decide +kernel) rfl, rfl, tyX5_ok, nmX5⟩
theorem zfl_RX5_42 : zFl RX5 42 5 5 := ⟨RX5, TX5, 9, tyX5, rfl, ziX5, by decide, zW_mem 186 (by decide +kernel) rfl, rfl, tyX5_ok, nmX5⟩
theorem zfl_RX5_48 : zFl RX5 48 5 6 := ⟨RX5, TX5, 9, tyX5, rfl, ziX5, by decide, zW_mem 187 (by decide +kernel) rfl, rfl, tyX5_ok, nmX5⟩
theorem zfl_RX5_53 : zFl RX5 53 5 7 := ⟨RX5, TX5, 9, tyX5, rfl, ziX5, by decide, zW_mem 188 (by decide +kernel) rfl, rfl, tyX5_ok, nmX5⟩
theorem zfl_RX5_57 : zFl RX5 57 5 8 := ⟨RX5, TX5, 9, tyX5, rfl, ziX5, by decide, zW_mem 189 (by decide +kernel) rfl, rfl, tyX5_ok, nmX5⟩
theorem zfl_RX6_69 : zFl RX6 69 6 0 := ⟨RX6, TX6, 18, tyX6, rfl, ziX6, by decide, zW_mem 569 (by decide +kernel) rfl, rfl, tyX6_ok, nmX6⟩
theorem zfl_RX6_7 : zFl RX6 7 6 1 := ⟨RX6, TX6, 18, tyX6, rfl, ziX6, by decide, zW_mem 570 (by decide +kernel) rfl, rfl, tyX6_ok, nmX6⟩
theorem zfl_RX6_94 : zFl RX6 94 6 2 := ⟨RX6, TX6, 18, tyX6, rfl, ziX6, by decide, zW_mem 571 (by decide +kernel) rfl, rfl, tyX6_ok, nmX6⟩
theorem zfl_RX6_13 : zFl RX6 13 6 3 := ⟨RX6, TX6, 18, tyX6, rfl, ziX6, by decide, zW_mem 572 (by decide +kernel) rfl, rfl, tyX6_ok, nmX6⟩
theorem zfl_RX6_16 : zFl RX6 16 6 4 := ⟨RX6, TX6, 18, tyX6, rfl, ziX6, by decide, zW_mem 573 (by decide +kernel) rfl, rfl, tyX6_ok, nmX6⟩
theorem zfl_RX6_19 : zFl RX6 19 6 5 := ⟨RX6, TX6, 18, tyX6, rfl, ziX6, by decide, zW_mem 574 (by decide +kernel) rfl, rfl, tyX6_ok, nmX6⟩
theorem zfl_RX6_168 : zFl RX6 168 6 6 := ⟨RX6, TX6, 18, tyX6, rfl, ziX6, by decide, zW_mem 575 (by decide +kernel) rfl, rfl, tyX6_ok, nmX6⟩
theorem zfl_RX6_22 : zFl RX6 22 6 7 := ⟨RX6, TX6, 18, tyX6, rfl, ziX6, by decide, zW_mem 576 (by decide +kernel) rfl, rfl, tyX6_ok, nmX6⟩
theorem zfl_RX6_25 : zFl RX6 25 6 8 := ⟨RX6, TX6, 18, tyX6, rfl, ziX6, by decide, zW_mem 577 (by decide +kernel) rfl, rfl, tyX6_ok, nmX6⟩
theorem zfl_RX6_28 : zFl RX6 28 6 9 := ⟨RX6, TX6, 18, tyX6, rfl, ziX6, by decide, zW_mem 578 (by decide +kernel) rfl, rfl, tyX6_ok, nmX6⟩
theorem zfl_RX6_31 : zFl RX6 31 6 10 := ⟨RX6, TX6, 18, tyX6, rfl, ziX6, by decide, zW_mem 579 (by decide +kernel) rfl, rfl, tyX6_ok, nmX6⟩
theorem zfl_RX6_35 : zFl RX6 35 6 11 := ⟨RX6, TX6, 18, tyX6, rfl, ziX6, by decide, zW_mem 580 (by decide +kernel) rfl, rfl, tyX6_ok, nmX6⟩
theorem zfl_RX6_65 : zFl RX6 65 6 12 := ⟨RX6, TX6, 18, tyX6, rfl, ziX6, by decide, zW_mem 581 (by decide +kernel) rfl, rfl, tyX6_ok, nmX6⟩
theorem zfl_RX6_38 : zFl RX6 38 6 13 := ⟨RX6, TX6, 18, tyX6, rfl, ziX6, by decide, zW_mem 582 (by decide +kernel) rfl, rfl, tyX6_ok, nmX6⟩
theorem zfl_RX6_41 : zFl RX6 41 6 14 := ⟨RX6, TX6, 18, tyX6, rfl, ziX6, by decide, zW_mem 583 (by decide +kernel) rfl, rfl, tyX6_ok, nmX6⟩
theorem zfl_RX6_44 : zFl RX6 44 6 15 := ⟨RX6, TX6, 18, tyX6, rfl, ziX6, by decide, zW_mem 584 (by decide +kernel) rfl, rfl, tyX6_ok, nmX6⟩
theorem zfl_RX6_47 : zFl RX6 47 6 16 := ⟨RX6, TX6, 18, tyX6, rfl, ziX6, by decide, zW_mem 585 (by decide +kernel) rfl, rfl, tyX6_ok, nmX6⟩
theorem zfl_RX6_50 : zFl RX6 50 6 17 := ⟨RX6, TX6, 18, tyX6, rfl, ziX6, by decide, zW_mem 586 (by decide +kernel) rfl, rfl, tyX6_ok, nmX6⟩
set_option maxRecDepth 20000 in
theorem zms_RX1_39 : zMs RX1 39 yJ7_fill_53178 cJ7_fill_53178 4 none 2 := ⟨⟨zW_mem 60 (by decide +kernel) rfl, zW_mem 61 (by decide +kernel) rfl, zW_mem 38 (by decide +kernel) rfl, zW_mem 62 (by rfl) rfl⟩, by decide +kernel, by decide +kernel, by decide +kernel⟩
set_option maxRecDepth 20000 in
theorem zmv_RL_13 : zMv RL 13 5 yX5_put cX5_put 2 (some .int) 1 := ⟨⟨TX5, 9, rfl⟩, ⟨zW_mem 209 (by decide +kernel) rfl, zW_mem 210 (by decide +kernel) rfl, zW_mem 211 (by decide +kernel) rfl, zW_mem 36 (by decide +kernel) rfl, zW_mem 212 (by rfl) rfl⟩, by decide +kernel, by decide +kernel, by decide +kernel⟩
set_option maxRecDepth 20000 in
theorem zms_RX5_60 : zMs RX5 60 yX5_isLetter cX5_isLetter 1 (some .boolean) 1 := ⟨⟨zW_mem 213 (by decide +kernel) rfl, zW_mem 214 (by decide +kernel) rfl, zW_mem 36 (by decide +kernel) rfl, zW_mem 215 (by rfl) rfl⟩, by decide +kernel, by decide +kernel, by decide +kernel⟩
set_option maxRecDepth 20000 in
theorem zms_RX5_129 : zMs RX5 129 yX5_within cX5_within 3 (some .boolean) 3 := ⟨⟨zW_mem 216 (by decide +kernel) rfl, zW_mem 217 (by decide +kernel) rfl, zW_mem 36 (by decide +kernel) rfl, zW_mem 218 (by rfl) rfl⟩, by decide +kernel, by decide +kernel, by decide +kernel⟩
set_option maxRecDepth 20000 in
theorem zmv_RX5_68 : zMv RX5 68 0 yX0_note cX0_note 4 none 3 := ⟨⟨TX0, 4, rfl⟩, ⟨zW_mem 219 (by decide +kernel) rfl, zW_mem 220 (by decide +kernel) rfl, zW_mem 221 (by decide +kernel) rfl, zW_mem 39 (by decide +kernel) rfl, zW_mem 222 (by rfl) rfl⟩, by decide +kernel, by decide +kernel, by decide +kernel⟩
set_option maxRecDepth 20000 in
theorem zmv_RX0_23 : zMv RX0 23 0 yX0_forgetOldest cX0_forgetOldest 1 none 0 := ⟨⟨TX0, 4, rfl⟩, ⟨zW_mem 223 (by decide +kernel) rfl, zW_mem 225 (by decide +kernel) rfl, zW_mem 0 (by decide +kernel) rfl, zW_mem 39 (by decide +kernel) rfl, zW_mem 226 (by rfl) rfl⟩, by decide +kernel, by decide +kernel, by decide +kernel⟩
theorem zmc_RX0_26 : zMc RX0 26 := ⟨zW_mem 227 (by decide +kernel) rfl, zW_mem 229 (by decide +kernel) rfl, zW_mem 228 (by decide +kernel) rfl, zW_mem 44 (by decide +kernel) rfl⟩
set_option maxRecDepth 20000 in
theorem zmv_RX5_72 : zMv RX5 72 1 yX1_add cX1_add 4 (some .int) 1 := ⟨⟨TX1, 11, rfl⟩, ⟨zW_mem 230 (by decide +kernel) rfl, zW_mem 231 (by decide +kernel) rfl, zW_mem 232 (by decide +kernel) rfl, zW_mem 37 (by decide +kernel) rfl, zW_mem 233 (by rfl) rfl⟩, by decide +kernel, by decide +kernel, by decide +kernel⟩
set_option maxRecDepth 20000 in
theorem zmv_RX1_49 : zMv RX1 49 1 yX1_longestBehind cX1_longestBehind 6 (some .int) 2 := ⟨⟨TX1, 11, rfl⟩, ⟨zW_mem 234 (by decide +kernel) rfl, zW_mem 236 (by decide +kernel) rfl, zW_mem 1 (by decide +kernel) rfl, zW_mem 37 (by decide +kernel) rfl, zW_mem 237 (by rfl) rfl⟩, by decide +kernel, by decide +kernel, by decide +kernel⟩
set_option maxRecDepth 20000 in
theorem zms_RX1_53 : zMs RX1 53 yX1_edge cX1_edge 2 (some .int) 2 := ⟨⟨zW_mem 238 (by decide +kernel) rfl, zW_mem 239 (by decide +kernel) rfl, zW_mem 37 (by decide +kernel) rfl, zW_mem 240 (by rfl) rfl⟩, by decide +kernel, by decide +kernel, by decide +kernel⟩
set_option maxRecDepth 20000 in
theorem zmv_RX1_56 : zMv RX1 56 1 yX1_create cX1_create 5 (some .int) 2 := ⟨⟨TX1, 11, rfl⟩, ⟨zW_mem 241 (by decide +kernel) rfl, zW_mem 243 (by decide +kernel) rfl, zW_mem 2 (by decide +kernel) rfl, zW_mem 37 (by decide +kernel) rfl, zW_mem 244 (by rfl) rfl⟩, by decide +kernel, by decide +kernel, by decide +kernel⟩
set_option maxRecDepth 20000 in
theorem zmv_RX1_62 : zMv RX1 62 1 yX1_less cX1_less 2 (some .int) 1 := ⟨⟨TX1, 11, rfl⟩, ⟨zW_mem 245 (by decide +kernel) rfl, zW_mem 246 (by decide +kernel) rfl, zW_mem 247 (by decide +kernel) rfl, zW_mem 37 (by decide +kernel) rfl, zW_mem 248 (by rfl) rfl⟩, by decide +kernel, by decide +kernel, by decide +kernel⟩
set_option maxRecDepth 20000 in
theorem zmv_RL_18 : zMv RL 18 5 yX5_pop cX5_pop 2 (some .int) 0 := ⟨⟨TX5, 9, rfl⟩, ⟨zW_mem 249 (by decide +kernel) rfl, zW_mem 250 (by decide +kernel) rfl, zW_mem 251 (by decide +kernel) rfl, zW_mem 36 (by decide +kernel) rfl, zW_mem 252 (by rfl) rfl⟩, by decide +kernel, by decide +kernel, by decide +kernel⟩
set_option maxRecDepth 20000 in
theorem zmv_RX5_76 : zMv RX5 76 1 yX1_lastLetter cX1_lastLetter 1 (some .int) 0 := ⟨⟨TX1, 11, rfl⟩, ⟨zW_mem 253 (by decide +kernel) rfl, zW_mem 254 (by decide +kernel) rfl, zW_mem 255 (by decide +kernel) rfl, zW_mem 37 (by decide +kernel) rfl, zW_mem 256 (by rfl) rfl⟩, by decide +kernel, by decide +kernel, by decide +kernel⟩
set_option maxRecDepth 20000 in
theorem zmv_RX5_80 : zMv RX5 80 1 yX1_removeLast cX1_removeLast 2 none 0 := ⟨⟨TX1, 11, rfl⟩, ⟨zW_mem 257 (by decide +kernel) rfl, zW_mem 258 (by decide +kernel) rfl, zW_mem 259 (by decide +kernel) rfl, zW_mem 37 (by decide +kernel) rfl, zW_mem 260 (by rfl) rfl⟩, by decide +kernel, by decide +kernel, by decide +kernel⟩
set_option maxRecDepth 20000 in
theorem zmv_RL_23 : zMv RL 23 5 yX5_change cX5_change 4 (some .int) 2 := ⟨⟨TX5, 9, rfl⟩, ⟨zW_mem 261 (by decide +kernel) rfl, zW_mem 262 (by decide +kernel) rfl, zW_mem 263 (by decide +kernel) rfl, zW_mem 36 (by decide +kernel) rfl, zW_mem 264 (by rfl) rfl⟩, by decide +kernel, by decide +kernel, by decide +kernel⟩
set_option maxRecDepth 20000 in
theorem zmv_RX5_83 : zMv RX5 83 5 yX5_isPlace cX5_isPlace 2 (some .boolean) 1 := ⟨⟨TX5, 9, rfl⟩, ⟨zW_mem 265 (by decide +kernel) rfl, zW_mem 267 (by decide +kernel) rfl, zW_mem 3 (by decide +kernel) rfl, zW_mem 36 (by decide +kernel) rfl, zW_mem 268 (by rfl) rfl⟩, by decide +kernel, by decide +kernel, by decide +kernel⟩
set_option maxRecDepth 20000 in
theorem zmv_RX5_89 : zMv RX5 89 1 yX1_replace cX1_replace 5 none 2 := ⟨⟨TX1, 11, rfl⟩, ⟨zW_mem 269 (by decide +kernel) rfl, zW_mem 270 (by decide +kernel) rfl, zW_mem 271 (by decide +kernel) rfl, zW_mem 37 (by decide +kernel) rfl, zW_mem 272 (by rfl) rfl⟩, by decide +kernel, by decide +kernel, by decide +kernel⟩
set_option maxRecDepth 20000 in
theorem zmv_RX1_66 : zMv RX1 66 1 yX1_shorten cX1_shorten 3 none 1 := ⟨⟨TX1, 11, rfl⟩, ⟨zW_mem 273 (by decide +kernel) rfl, zW_mem 275 (by decide +kernel) rfl, zW_mem 4 (by decide +kernel) rfl, zW_mem 37 (by decide +kernel) rfl, zW_mem 276 (by rfl) rfl⟩, by decide +kernel, by decide +kernel, by decide +kernel⟩
set_option maxRecDepth 20000 in
theorem zmv_RX1_73 : zMv RX1 73 1 yX1_removeLast cX1_removeLast 2 none 0 := ⟨⟨TX1, 11, rfl⟩, ⟨zW_mem 277 (by decide +kernel) rfl, zW_mem 258 (by decide +kernel) rfl, zW_mem 259 (by decide +kernel) rfl, zW_mem 37 (by decide +kernel) rfl, zW_mem 260 (by rfl) rfl⟩, by decide +kernel, by decide +kernel, by decide +kernel⟩
set_option maxRecDepth 20000 in
theorem zmv_RX1_70 : zMv RX1 70 1 yX1_add cX1_add 4 (some .int) 1 := ⟨⟨TX1, 11, rfl⟩, ⟨zW_mem 278 (by decide +kernel) rfl, zW_mem 231 (by decide +kernel) rfl, zW_mem 232 (by decide +kernel) rfl, zW_mem 37 (by decide +kernel) rfl, zW_mem 233 (by rfl) rfl⟩, by decide +kernel, by decide +kernel, by decide +kernel⟩
set_option maxRecDepth 20000 in
theorem zmv_RL_28 : zMv RL 28 5 yX5_undo cX5_undo 1 (some .int) 0 := ⟨⟨TX5, 9, rfl⟩, ⟨zW_mem 279 (by decide +kernel) rfl, zW_mem 280 (by decide +kernel) rfl, zW_mem 281 (by decide +kernel) rfl, zW_mem 36 (by decide +kernel) rfl, zW_mem 282 (by rfl) rfl⟩, by decide +kernel, by decide +kernel, by decide +kernel⟩
set_option maxRecDepth 20000 in
theorem zmv_RX5_94 : zMv RX5 94 0 yX0_takeBackLatest cX0_takeBackLatest 2 none 1 := ⟨⟨TX0, 4, rfl⟩, ⟨zW_mem 283 (by decide +kernel) rfl, zW_mem 284 (by decide +kernel) rfl, zW_mem 285 (by decide +kernel) rfl, zW_mem 39 (by decide +kernel) rfl, zW_mem 286 (by rfl) rfl⟩, by decide +kernel, by decide +kernel, by decide +kernel⟩
set_option maxRecDepth 20000 in
theorem zmv_RX0_32 : zMv RX0 32 1 yX1_removeLast cX1_removeLast 2 none 0 := ⟨⟨TX1, 11, rfl⟩, ⟨zW_mem 287 (by decide +kernel) rfl, zW_mem 258 (by decide +kernel) rfl, zW_mem 259 (by decide +kernel) rfl, zW_mem 37 (by decide +kernel) rfl, zW_mem 260 (by rfl) rfl⟩, by decide +kernel, by decide +kernel, by decide +kernel⟩
set_option maxRecDepth 20000 in
theorem zmv_RX0_37 : zMv RX0 37 1 yX1_add cX1_add 4 (some .int) 1 := ⟨⟨TX1, 11, rfl⟩, ⟨zW_mem 288 (by decide +kernel) rfl, zW_mem 231 (by decide +kernel) rfl, zW_mem 232 (by decide +kernel) rfl, zW_mem 37 (by decide +kernel) rfl, zW_mem 233 (by rfl) rfl⟩, by decide +kernel, by decide +kernel, by decide +kernel⟩
set_option maxRecDepth 20000 in
theorem zmv_RX0_41 : zMv RX0 41 1 yX1_replace cX1_replace 5 none 2 := ⟨⟨TX1, 11, rfl⟩, ⟨zW_mem 289 (by decide +kernel) rfl, zW_mem 270 (by decide +kernel) rfl, zW_mem 271 (by decide +kernel) rfl, zW_mem 37 (by decide +kernel) rfl, zW_mem 272 (by rfl) rfl⟩, by decide +kernel, by decide +kernel, by decide +kernel⟩
set_option maxRecDepth 20000 in
theorem zmv_RL_32 : zMv RL 32 5 yX5_letter cX5_letter 2 (some .int) 1 := ⟨⟨TX5, 9, rfl⟩, ⟨zW_mem 290 (by decide +kernel) rfl, zW_mem 291 (by decide +kernel) rfl, zW_mem 292 (by decide +kernel) rfl, zW_mem 36 (by decide +kernel) rfl, zW_mem 293 (by rfl) rfl⟩, by decide +kernel, by decide +kernel, by decide +kernel⟩
set_option maxRecDepth 20000 in
theorem zmv_RL_36 : zMv RL 36 5 yX5_node cX5_node 3 (some .int) 2 := ⟨⟨TX5, 9, rfl⟩, ⟨zW_mem 294 (by decide +kernel) rfl, zW_mem 295 (by decide +kernel) rfl, zW_mem 296 (by decide +kernel) rfl, zW_mem 36 (by decide +kernel) rfl, zW_mem 297 (by rfl) rfl⟩, by decide +kernel, by decide +kernel, by decide +kernel⟩
set_option maxRecDepth 20000 in
theorem zmv_RX5_98 : zMv RX5 98 5 yX5_isNode cX5_isNode 2 (some .boolean) 1 := ⟨⟨TX5, 9, rfl⟩, ⟨zW_mem 298 (by decide +kernel) rfl, zW_mem 300 (by decide +kernel) rfl, zW_mem 5 (by decide +kernel) rfl, zW_mem 36 (by decide +kernel) rfl, zW_mem 301 (by rfl) rfl⟩, by decide +kernel, by decide +kernel, by decide +kernel⟩
set_option maxRecDepth 20000 in
theorem zmv_RX5_104 : zMv RX5 104 1 yX1_firstPlace cX1_firstPlace 2 (some .int) 1 := ⟨⟨TX1, 11, rfl⟩, ⟨zW_mem 302 (by decide +kernel) rfl, zW_mem 303 (by decide +kernel) rfl, zW_mem 304 (by decide +kernel) rfl, zW_mem 37 (by decide +kernel) rfl, zW_mem 305 (by rfl) rfl⟩, by decide +kernel, by decide +kernel, by decide +kernel⟩
set_option maxRecDepth 20000 in
theorem zmv_RX5_107 : zMv RX5 107 1 yX1_lastPlace cX1_lastPlace 4 (some .int) 1 := ⟨⟨TX1, 11, rfl⟩, ⟨zW_mem 306 (by decide +kernel) rfl, zW_mem 307 (by decide +kernel) rfl, zW_mem 308 (by decide +kernel) rfl, zW_mem 37 (by decide +kernel) rfl, zW_mem 309 (by rfl) rfl⟩, by decide +kernel, by decide +kernel, by decide +kernel⟩
set_option maxRecDepth 20000 in
theorem zmv_RX1_76 : zMv RX1 76 1 yX1_firstPlace cX1_firstPlace 2 (some .int) 1 := ⟨⟨TX1, 11, rfl⟩, ⟨zW_mem 310 (by decide +kernel) rfl, zW_mem 303 (by decide +kernel) rfl, zW_mem 304 (by decide +kernel) rfl, zW_mem 37 (by decide +kernel) rfl, zW_mem 305 (by rfl) rfl⟩, by decide +kernel, by decide +kernel, by decide +kernel⟩
set_option maxRecDepth 20000 in
theorem zmv_RX1_79 : zMv RX1 79 1 yX1_standsAt cX1_standsAt 6 (some .boolean) 4 := ⟨⟨TX1, 11, rfl⟩, ⟨zW_mem 311 (by decide +kernel) rfl, zW_mem 312 (by decide +kernel) rfl, zW_mem 313 (by decide +kernel) rfl, zW_mem 37 (by decide +kernel) rfl, zW_mem 314 (by rfl) rfl⟩, by decide +kernel, by decide +kernel, by decide +kernel⟩
set_option maxRecDepth 20000 in
theorem zmv_RX5_110 : zMv RX5 110 1 yX1_places cX1_places 6 (some .int) 3 := ⟨⟨TX1, 11, rfl⟩, ⟨zW_mem 315 (by decide +kernel) rfl, zW_mem 316 (by decide +kernel) rfl, zW_mem 317 (by decide +kernel) rfl, zW_mem 37 (by decide +kernel) rfl, zW_mem 318 (by rfl) rfl⟩, by decide +kernel, by decide +kernel, by decide +kernel⟩
set_option maxRecDepth 20000 in
theorem zms_RX5_117 : zMs RX5 117 yX5_nodeOrNone cX5_nodeOrNone 1 (some .int) 1 := ⟨⟨zW_mem 319 (by decide +kernel) rfl, zW_mem 320 (by decide +kernel) rfl, zW_mem 36 (by decide +kernel) rfl, zW_mem 321 (by rfl) rfl⟩, by decide +kernel, by decide +kernel, by decide +kernel⟩
set_option maxRecDepth 20000 in
theorem zmv_RX5_120 : zMv RX5 120 1 yX1_less cX1_less 2 (some .int) 1 := ⟨⟨TX1, 11, rfl⟩, ⟨zW_mem 322 (by decide +kernel) rfl, zW_mem 246 (by decide +kernel) rfl, zW_mem 247 (by decide +kernel) rfl, zW_mem 37 (by decide +kernel) rfl, zW_mem 248 (by rfl) rfl⟩, by decide +kernel, by decide +kernel, by decide +kernel⟩
set_option maxRecDepth 20000 in
theorem zmv_RL_40 : zMv RL 40 5 yX5_keep cX5_keep 2 (some .int) 1 := ⟨⟨TX5, 9, rfl⟩, ⟨zW_mem 323 (by decide +kernel) rfl, zW_mem 324 (by decide +kernel) rfl, zW_mem 325 (by decide +kernel) rfl, zW_mem 36 (by decide +kernel) rfl, zW_mem 326 (by rfl) rfl⟩, by decide +kernel, by decide +kernel, by decide +kernel⟩
set_option maxRecDepth 20000 in
theorem zmv_RX5_133 : zMv RX5 133 3 yX3_hold cX3_hold 3 none 2 := ⟨⟨TX3, 2, rfl⟩, ⟨zW_mem 327 (by decide +kernel) rfl, zW_mem 328 (by decide +kernel) rfl, zW_mem 329 (by decide +kernel) rfl, zW_mem 41 (by decide +kernel) rfl, zW_mem 330 (by rfl) rfl⟩, by decide +kernel, by decide +kernel, by decide +kernel⟩
theorem zmc_RX3_19 : zMc RX3 19 := ⟨zW_mem 331 (by decide +kernel) rfl, zW_mem 229 (by decide +kernel) rfl, zW_mem 228 (by decide +kernel) rfl, zW_mem 44 (by decide +kernel) rfl⟩
set_option maxRecDepth 20000 in
theorem zmv_RL_44 : zMv RL 44 5 yX5_back cX5_back 3 (some .int) 1 := ⟨⟨TX5, 9, rfl⟩, ⟨zW_mem 332 (by decide +kernel) rfl, zW_mem 333 (by decide +kernel) rfl, zW_mem 334 (by decide +kernel) rfl, zW_mem 36 (by decide +kernel) rfl, zW_mem 335 (by rfl) rfl⟩, by decide +kernel, by decide +kernel, by decide +kernel⟩
set_option maxRecDepth 20000 in
theorem zmv_RX5_141 : zMv RX5 141 1 yX1_load cX1_load 5 none 3 := ⟨⟨TX1, 11, rfl⟩, ⟨zW_mem 336 (by decide +kernel) rfl, zW_mem 337 (by decide +kernel) rfl, zW_mem 338 (by decide +kernel) rfl, zW_mem 37 (by decide +kernel) rfl, zW_mem 339 (by rfl) rfl⟩, by decide +kernel, by decide +kernel, by decide +kernel⟩
set_option maxRecDepth 20000 in
theorem zmv_RX5_145 : zMv RX5 145 0 yX0_forget cX0_forget 1 none 0 := ⟨⟨TX0, 4, rfl⟩, ⟨zW_mem 340 (by decide +kernel) rfl, zW_mem 341 (by decide +kernel) rfl, zW_mem 342 (by decide +kernel) rfl, zW_mem 39 (by decide +kernel) rfl, zW_mem 343 (by rfl) rfl⟩, by decide +kernel, by decide +kernel, by decide +kernel⟩
set_option maxRecDepth 20000 in
theorem zmv_RL_48 : zMv RL 48 5 yX5_common cX5_common 8 (some .int) 2 := ⟨⟨TX5, 9, rfl⟩, ⟨zW_mem 344 (by decide +kernel) rfl, zW_mem 345 (by decide +kernel) rfl, zW_mem 346 (by decide +kernel) rfl, zW_mem 36 (by decide +kernel) rfl, zW_mem 347 (by rfl) rfl⟩, by decide +kernel, by decide +kernel, by decide +kernel⟩
set_option maxRecDepth 20000 in
theorem zmv_RX5_151 : zMv RX5 151 1 yX1_nodeOf cX1_nodeOf 5 (some .int) 3 := ⟨⟨TX1, 11, rfl⟩, ⟨zW_mem 348 (by decide +kernel) rfl, zW_mem 349 (by decide +kernel) rfl, zW_mem 350 (by decide +kernel) rfl, zW_mem 37 (by decide +kernel) rfl, zW_mem 351 (by rfl) rfl⟩, by decide +kernel, by decide +kernel, by decide +kernel⟩
set_option maxRecDepth 20000 in
theorem zms_RX5_154 : zMs RX5 154 yJ9_max_7cf53 cJ9_max_7cf53 2 (some .int) 2 := ⟨⟨zW_mem 352 (by decide +kernel) rfl, zW_mem 353 (by decide +kernel) rfl, zW_mem 45 (by decide +kernel) rfl, zW_mem 354 (by rfl) rfl⟩, by decide +kernel, by decide +kernel, by decide +kernel⟩
set_option maxRecDepth 20000 in
theorem zmv_RL_52 : zMv RL 52 5 yX5_ends cX5_ends 6 (some .int) 2 := ⟨⟨TX5, 9, rfl⟩, ⟨zW_mem 355 (by decide +kernel) rfl, zW_mem 356 (by decide +kernel) rfl, zW_mem 357 (by decide +kernel) rfl, zW_mem 36 (by decide +kernel) rfl, zW_mem 358 (by rfl) rfl⟩, by decide +kernel, by decide +kernel, by decide +kernel⟩
set_option maxRecDepth 20000 in
theorem zmv_RL_56 : zMv RL 56 5 yX5_groups cX5_groups 5 (some .int) 1 := ⟨⟨TX5, 9, rfl⟩, ⟨zW_mem 359 (by decide +kernel) rfl, zW_mem 360 (by decide +kernel) rfl, zW_mem 361 (by decide +kernel) rfl, zW_mem 36 (by decide +kernel) rfl, zW_mem 362 (by rfl) rfl⟩, by decide +kernel, by decide +kernel, by decide +kernel⟩
set_option maxRecDepth 20000 in
theorem zmv_RL_60 : zMv RL 60 5 yX5_cuts cX5_cuts 4 (some .int) 2 := ⟨⟨TX5, 9, rfl⟩, ⟨zW_mem 363 (by decide +kernel) rfl, zW_mem 364 (by decide +kernel) rfl, zW_mem 365 (by decide +kernel) rfl, zW_mem 36 (by decide +kernel) rfl, zW_mem 366 (by rfl) rfl⟩, by decide +kernel, by decide +kernel, by decide +kernel⟩
set_option maxRecDepth 20000 in
theorem zmv_RX5_166 : zMv RX5 166 2 yX2_cut cX2_cut 5 none 3 := ⟨⟨TX2, 2, rfl⟩, ⟨zW_mem 367 (by decide +kernel) rfl, zW_mem 368 (by decide +kernel) rfl, zW_mem 369 (by decide +kernel) rfl, zW_mem 40 (by decide +kernel) rfl, zW_mem 370 (by rfl) rfl⟩, by decide +kernel, by decide +kernel, by decide +kernel⟩
set_option maxRecDepth 20000 in
theorem zms_RX2_18 : zMs RX2 18 yJ7_fill_53178 cJ7_fill_53178 4 none 2 := ⟨⟨zW_mem 371 (by decide +kernel) rfl, zW_mem 61 (by decide +kernel) rfl, zW_mem 38 (by decide +kernel) rfl, zW_mem 62 (by rfl) rfl⟩, by decide +kernel, by decide +kernel, by decide +kernel⟩
set_option maxRecDepth 20000 in
theorem zmv_RX2_24 : zMv RX2 24 2 yX2_reachFrom cX2_reachFrom 10 none 3 := ⟨⟨TX2, 2, rfl⟩, ⟨zW_mem 372 (by decide +kernel) rfl, zW_mem 374 (by decide +kernel) rfl, zW_mem 6 (by decide +kernel) rfl, zW_mem 40 (by decide +kernel) rfl, zW_mem 375 (by rfl) rfl⟩, by decide +kernel, by decide +kernel, by decide +kernel⟩
set_option maxRecDepth 20000 in
theorem zmv_RX5_170 : zMv RX5 170 2 yX2_pieces cX2_pieces 1 (some .int) 0 := ⟨⟨TX2, 2, rfl⟩, ⟨zW_mem 376 (by decide +kernel) rfl, zW_mem 377 (by decide +kernel) rfl, zW_mem 378 (by decide +kernel) rfl, zW_mem 40 (by decide +kernel) rfl, zW_mem 379 (by rfl) rfl⟩, by decide +kernel, by decide +kernel, by decide +kernel⟩
set_option maxRecDepth 20000 in
theorem zmv_RX5_173 : zMv RX5 173 2 yX2_pieceLength cX2_pieceLength 4 (some .int) 1 := ⟨⟨TX2, 2, rfl⟩, ⟨zW_mem 380 (by decide +kernel) rfl, zW_mem 381 (by decide +kernel) rfl, zW_mem 382 (by decide +kernel) rfl, zW_mem 40 (by decide +kernel) rfl, zW_mem 383 (by rfl) rfl⟩, by decide +kernel, by decide +kernel, by decide +kernel⟩
set_option maxRecDepth 20000 in
theorem zmv_RL_64 : zMv RL 64 5 yX5_evens cX5_evens 3 (some .int) 1 := ⟨⟨TX5, 9, rfl⟩, ⟨zW_mem 384 (by decide +kernel) rfl, zW_mem 385 (by decide +kernel) rfl, zW_mem 386 (by decide +kernel) rfl, zW_mem 36 (by decide +kernel) rfl, zW_mem 387 (by rfl) rfl⟩, by decide +kernel, by decide +kernel, by decide +kernel⟩
set_option maxRecDepth 20000 in
theorem zmv_RL_68 : zMv RL 68 5 yX5_in cX5_in 5 (some .int) 3 := ⟨⟨TX5, 9, rfl⟩, ⟨zW_mem 388 (by decide +kernel) rfl, zW_mem 389 (by decide +kernel) rfl, zW_mem 390 (by decide +kernel) rfl, zW_mem 36 (by decide +kernel) rfl, zW_mem 391 (by rfl) rfl⟩, by decide +kernel, by decide +kernel, by decide +kernel⟩
set_option maxRecDepth 20000 in
theorem zmv_RX5_176 : zMv RX5 176 1 yX1_longestNode cX1_longestNode 3 (some .int) 0 := ⟨⟨TX1, 11, rfl⟩, ⟨zW_mem 392 (by decide +kernel) rfl, zW_mem 393 (by decide +kernel) rfl, zW_mem 394 (by decide +kernel) rfl, zW_mem 37 (by decide +kernel) rfl, zW_mem 395 (by rfl) rfl⟩, by decide +kernel, by decide +kernel, by decide +kernel⟩
set_option maxRecDepth 20000 in
theorem zmv_RL_73 : zMv RL 73 5 yX5_mend cX5_mend 2 (some .int) 1 := ⟨⟨TX5, 9, rfl⟩, ⟨zW_mem 396 (by decide +kernel) rfl, zW_mem 397 (by decide +kernel) rfl, zW_mem 398 (by decide +kernel) rfl, zW_mem 36 (by decide +kernel) rfl, zW_mem 399 (by rfl) rfl⟩, by decide +kernel, by decide +kernel, by decide +kernel⟩
set_option maxRecDepth 20000 in
theorem zmv_RX5_179 : zMv RX5 179 1 yX1_unlikePairs cX1_unlikePairs 3 (some .int) 0 := ⟨⟨TX1, 11, rfl⟩, ⟨zW_mem 400 (by decide +kernel) rfl, zW_mem 401 (by decide +kernel) rfl, zW_mem 402 (by decide +kernel) rfl, zW_mem 37 (by decide +kernel) rfl, zW_mem 403 (by rfl) rfl⟩, by decide +kernel, by decide +kernel, by decide +kernel⟩
set_option maxRecDepth 20000 in
theorem zmv_RX5_182 : zMv RX5 182 5 yX5_fewestFills cX5_fewestFills 6 (some .int) 0 := ⟨⟨TX5, 9, rfl⟩, ⟨zW_mem 404 (by decide +kernel) rfl, zW_mem 406 (by decide +kernel) rfl, zW_mem 7 (by decide +kernel) rfl, zW_mem 36 (by decide +kernel) rfl, zW_mem 407 (by rfl) rfl⟩, by decide +kernel, by decide +kernel, by decide +kernel⟩
set_option maxRecDepth 20000 in
theorem zms_RX5_263 : zMs RX5 263 yJ9_min_7cf53 cJ9_min_7cf53 2 (some .int) 2 := ⟨⟨zW_mem 408 (by decide +kernel) rfl, zW_mem 409 (by decide +kernel) rfl, zW_mem 45 (by decide +kernel) rfl, zW_mem 410 (by rfl) rfl⟩, by decide +kernel, by decide +kernel, by decide +kernel⟩
set_option maxRecDepth 20000 in
theorem zmv_RL_77 : zMv RL 77 5 yX5_turned cX5_turned 5 (some .int) 1 := ⟨⟨TX5, 9, rfl⟩, ⟨zW_mem 411 (by decide +kernel) rfl, zW_mem 412 (by decide +kernel) rfl, zW_mem 413 (by decide +kernel) rfl, zW_mem 36 (by decide +kernel) rfl, zW_mem 414 (by rfl) rfl⟩, by decide +kernel, by decide +kernel, by decide +kernel⟩
set_option maxRecDepth 20000 in
theorem zmv_RX5_185 : zMv RX5 185 1 yX1_isMirrorTurned cX1_isMirrorTurned 3 (some .boolean) 1 := ⟨⟨TX1, 11, rfl⟩, ⟨zW_mem 415 (by decide +kernel) rfl, zW_mem 416 (by decide +kernel) rfl, zW_mem 417 (by decide +kernel) rfl, zW_mem 37 (by decide +kernel) rfl, zW_mem 418 (by rfl) rfl⟩, by decide +kernel, by decide +kernel, by decide +kernel⟩
set_option maxRecDepth 20000 in
theorem zmv_RX1_83 : zMv RX1 83 1 yX1_around cX1_around 2 (some .int) 1 := ⟨⟨TX1, 11, rfl⟩, ⟨zW_mem 419 (by decide +kernel) rfl, zW_mem 421 (by decide +kernel) rfl, zW_mem 8 (by decide +kernel) rfl, zW_mem 37 (by decide +kernel) rfl, zW_mem 422 (by rfl) rfl⟩, by decide +kernel, by decide +kernel, by decide +kernel⟩
set_option maxRecDepth 20000 in
theorem zmv_RL_81 : zMv RL 81 5 yX5_next cX5_next 4 (some .int) 2 := ⟨⟨TX5, 9, rfl⟩, ⟨zW_mem 423 (by decide +kernel) rfl, zW_mem 424 (by decide +kernel) rfl, zW_mem 425 (by decide +kernel) rfl, zW_mem 36 (by decide +kernel) rfl, zW_mem 426 (by rfl) rfl⟩, by decide +kernel, by decide +kernel, by decide +kernel⟩
set_option maxRecDepth 20000 in
theorem zmv_RL_85 : zMv RL 85 5 yX5_grow cX5_grow 4 (some .int) 2 := ⟨⟨TX5, 9, rfl⟩, ⟨zW_mem 427 (by decide +kernel) rfl, zW_mem 428 (by decide +kernel) rfl, zW_mem 429 (by decide +kernel) rfl, zW_mem 36 (by decide +kernel) rfl, zW_mem 430 (by rfl) rfl⟩, by decide +kernel, by decide +kernel, by decide +kernel⟩
set_option maxRecDepth 20000 in
theorem zmv_RX5_188 : zMv RX5 188 5 yX5_growMost cX5_growMost 5 (some .int) 1 := ⟨⟨TX5, 9, rfl⟩, ⟨zW_mem 431 (by decide +kernel) rfl, zW_mem 433 (by decide +kernel) rfl, zW_mem 9 (by decide +kernel) rfl, zW_mem 36 (by decide +kernel) rfl, zW_mem 434 (by rfl) rfl⟩, by decide +kernel, by decide +kernel, by decide +kernel⟩
set_option maxRecDepth 20000 in
theorem zms_RX5_191 : zMs RX5 191 yX5_rowsOf cX5_rowsOf 3 (some .int) 1 := ⟨⟨zW_mem 435 (by decide +kernel) rfl, zW_mem 436 (by decide +kernel) rfl, zW_mem 36 (by decide +kernel) rfl, zW_mem 437 (by rfl) rfl⟩, by decide +kernel, by decide +kernel, by decide +kernel⟩
set_option maxRecDepth 20000 in
theorem zmv_RX5_266 : zMv RX5 266 5 yX5_startRows cX5_startRows 2 none 1 := ⟨⟨TX5, 9, rfl⟩, ⟨zW_mem 438 (by decide +kernel) rfl, zW_mem 440 (by decide +kernel) rfl, zW_mem 10 (by decide +kernel) rfl, zW_mem 36 (by decide +kernel) rfl, zW_mem 441 (by rfl) rfl⟩, by decide +kernel, by decide +kernel, by decide +kernel⟩
set_option maxRecDepth 20000 in
theorem zmv_RX5_272 : zMv RX5 272 1 yX1_lengthen cX1_lengthen 3 none 1 := ⟨⟨TX1, 11, rfl⟩, ⟨zW_mem 442 (by decide +kernel) rfl, zW_mem 443 (by decide +kernel) rfl, zW_mem 444 (by decide +kernel) rfl, zW_mem 37 (by decide +kernel) rfl, zW_mem 445 (by rfl) rfl⟩, by decide +kernel, by decide +kernel, by decide +kernel⟩
theorem zmc_RX5_245 : zMc RX5 245 := ⟨zW_mem 446 (by decide +kernel) rfl, zW_mem 229 (by decide +kernel) rfl, zW_mem 228 (by decide +kernel) rfl, zW_mem 44 (by decide +kernel) rfl⟩
set_option maxRecDepth 20000 in
theorem zmv_RX5_269 : zMv RX5 269 5 yX5_stepRow cX5_stepRow 4 none 1 := ⟨⟨TX5, 9, rfl⟩, ⟨zW_mem 447 (by decide +kernel) rfl, zW_mem 449 (by decide +kernel) rfl, zW_mem 11 (by decide +kernel) rfl, zW_mem 36 (by decide +kernel) rfl, zW_mem 450 (by rfl) rfl⟩, by decide +kernel, by decide +kernel, by decide +kernel⟩
set_option maxRecDepth 20000 in
theorem zmv_RL_89 : zMv RL 89 5 yX5_odds cX5_odds 7 (some .int) 3 := ⟨⟨TX5, 9, rfl⟩, ⟨zW_mem 451 (by decide +kernel) rfl, zW_mem 452 (by decide +kernel) rfl, zW_mem 453 (by decide +kernel) rfl, zW_mem 36 (by decide +kernel) rfl, zW_mem 454 (by rfl) rfl⟩, by decide +kernel, by decide +kernel, by decide +kernel⟩
set_option maxRecDepth 20000 in
theorem zmv_RX5_194 : zMv RX5 194 5 yX5_rowsThatBring cX5_rowsThatBring 6 (some .int) 2 := ⟨⟨TX5, 9, rfl⟩, ⟨zW_mem 455 (by decide +kernel) rfl, zW_mem 457 (by decide +kernel) rfl, zW_mem 12 (by decide +kernel) rfl, zW_mem 36 (by decide +kernel) rfl, zW_mem 458 (by rfl) rfl⟩, by decide +kernel, by decide +kernel, by decide +kernel⟩
set_option maxRecDepth 20000 in
theorem zms_RX5_197 : zMs RX5 197 yX5_greatestDivisor cX5_greatestDivisor 6 (some .int) 2 := ⟨⟨zW_mem 459 (by decide +kernel) rfl, zW_mem 460 (by decide +kernel) rfl, zW_mem 36 (by decide +kernel) rfl, zW_mem 461 (by rfl) rfl⟩, by decide +kernel, by decide +kernel, by decide +kernel⟩
set_option maxRecDepth 20000 in
theorem zmv_RL_93 : zMv RL 93 5 yX5_walks cX5_walks 8 (some .int) 3 := ⟨⟨TX5, 9, rfl⟩, ⟨zW_mem 462 (by decide +kernel) rfl, zW_mem 463 (by decide +kernel) rfl, zW_mem 464 (by decide +kernel) rfl, zW_mem 36 (by decide +kernel) rfl, zW_mem 465 (by rfl) rfl⟩, by decide +kernel, by decide +kernel, by decide +kernel⟩
theorem zk_RX5_200 : Cond.constant RX5 200 (999999) ∈ zW := zW_mem 466 (by decide +kernel) rfl
theorem zk_RX5_201 : Cond.constantLong RX5 201 (16807) ∈ zW := zW_mem 467 (by decide +kernel) rfl
theorem zk_RX5_203 : Cond.constantLong RX5 203 (2147483647) ∈ zW := zW_mem 468 (by decide +kernel) rfl
theorem zk_RX5_205 : Cond.constantLong RX5 205 (64) ∈ zW := zW_mem 469 (by decide +kernel) rfl
theorem zk_RX5_207 : Cond.constantLong RX5 207 (4) ∈ zW := zW_mem 470 (by decide +kernel) rfl
theorem zk_RX5_209 : Cond.constantLong RX5 209 (6) ∈ zW := zW_mem 471 (by decide +kernel) rfl
set_option maxRecDepth 20000 in
theorem zmv_RL_97 : zMv RL 97 5 yX5_feed cX5_feed 2 (some .int) 1 := ⟨⟨TX5, 9, rfl⟩, ⟨zW_mem 472 (by decide +kernel) rfl, zW_mem 473 (by decide +kernel) rfl, zW_mem 474 (by decide +kernel) rfl, zW_mem 36 (by decide +kernel) rfl, zW_mem 475 (by rfl) rfl⟩, by decide +kernel, by decide +kernel, by decide +kernel⟩
set_option maxRecDepth 20000 in
theorem zms_RX5_211 : zMs RX5 211 yX5_isByte cX5_isByte 2 (some .boolean) 1 := ⟨⟨zW_mem 476 (by decide +kernel) rfl, zW_mem 477 (by decide +kernel) rfl, zW_mem 36 (by decide +kernel) rfl, zW_mem 478 (by rfl) rfl⟩, by decide +kernel, by decide +kernel, by decide +kernel⟩
theorem zk_RX5_261 : Cond.constantLong RX5 261 (255) ∈ zW := zW_mem 479 (by decide +kernel) rfl
set_option maxRecDepth 20000 in
theorem zmv_RX5_215 : zMv RX5 215 3 yX3_append cX3_append 2 none 1 := ⟨⟨TX3, 2, rfl⟩, ⟨zW_mem 480 (by decide +kernel) rfl, zW_mem 481 (by decide +kernel) rfl, zW_mem 482 (by decide +kernel) rfl, zW_mem 41 (by decide +kernel) rfl, zW_mem 483 (by rfl) rfl⟩, by decide +kernel, by decide +kernel, by decide +kernel⟩
set_option maxRecDepth 20000 in
theorem zmv_RL_101 : zMv RL 101 5 yX5_clear cX5_clear 2 (some .int) 0 := ⟨⟨TX5, 9, rfl⟩, ⟨zW_mem 484 (by decide +kernel) rfl, zW_mem 485 (by decide +kernel) rfl, zW_mem 486 (by decide +kernel) rfl, zW_mem 36 (by decide +kernel) rfl, zW_mem 487 (by rfl) rfl⟩, by decide +kernel, by decide +kernel, by decide +kernel⟩
set_option maxRecDepth 20000 in
theorem zmv_RL_105 : zMv RL 105 5 yX5_find cX5_find 2 (some .int) 0 := ⟨⟨TX5, 9, rfl⟩, ⟨zW_mem 488 (by decide +kernel) rfl, zW_mem 489 (by decide +kernel) rfl, zW_mem 490 (by decide +kernel) rfl, zW_mem 36 (by decide +kernel) rfl, zW_mem 491 (by rfl) rfl⟩, by decide +kernel, by decide +kernel, by decide +kernel⟩
set_option maxRecDepth 20000 in
theorem zmv_RL_109 : zMv RL 109 5 yX5_times cX5_times 1 (some .int) 0 := ⟨⟨TX5, 9, rfl⟩, ⟨zW_mem 492 (by decide +kernel) rfl, zW_mem 493 (by decide +kernel) rfl, zW_mem 494 (by decide +kernel) rfl, zW_mem 36 (by decide +kernel) rfl, zW_mem 495 (by rfl) rfl⟩, by decide +kernel, by decide +kernel, by decide +kernel⟩
set_option maxRecDepth 20000 in
theorem zmv_RL_113 : zMv RL 113 5 yX5_sheet cX5_sheet 4 (some .int) 3 := ⟨⟨TX5, 9, rfl⟩, ⟨zW_mem 496 (by decide +kernel) rfl, zW_mem 497 (by decide +kernel) rfl, zW_mem 498 (by decide +kernel) rfl, zW_mem 36 (by decide +kernel) rfl, zW_mem 499 (by rfl) rfl⟩, by decide +kernel, by decide +kernel, by decide +kernel⟩
set_option maxRecDepth 20000 in
theorem zms_RX5_218 : zMs RX5 218 yX5_isSheet cX5_isSheet 1 (some .boolean) 1 := ⟨⟨zW_mem 500 (by decide +kernel) rfl, zW_mem 501 (by decide +kernel) rfl, zW_mem 36 (by decide +kernel) rfl, zW_mem 502 (by rfl) rfl⟩, by decide +kernel, by decide +kernel, by decide +kernel⟩
set_option maxRecDepth 20000 in
theorem zms_RX5_221 : zMs RX5 221 yX5_isLane cX5_isLane 1 (some .boolean) 1 := ⟨⟨zW_mem 503 (by decide +kernel) rfl, zW_mem 504 (by decide +kernel) rfl, zW_mem 36 (by decide +kernel) rfl, zW_mem 505 (by rfl) rfl⟩, by decide +kernel, by decide +kernel, by decide +kernel⟩
set_option maxRecDepth 20000 in
theorem zmv_RX5_224 : zMv RX5 224 4 yX4_begin cX4_begin 3 none 2 := ⟨⟨TX4, 3, rfl⟩, ⟨zW_mem 506 (by decide +kernel) rfl, zW_mem 507 (by decide +kernel) rfl, zW_mem 508 (by decide +kernel) rfl, zW_mem 42 (by decide +kernel) rfl, zW_mem 509 (by rfl) rfl⟩, by decide +kernel, by decide +kernel, by decide +kernel⟩
set_option maxRecDepth 20000 in
theorem zms_RX4_19 : zMs RX4 19 yJ7_fill_d0a16 cJ7_fill_d0a16 5 none 2 := ⟨⟨zW_mem 510 (by decide +kernel) rfl, zW_mem 511 (by decide +kernel) rfl, zW_mem 38 (by decide +kernel) rfl, zW_mem 512 (by rfl) rfl⟩, by decide +kernel, by decide +kernel, by decide +kernel⟩
set_option maxRecDepth 20000 in
theorem zmv_RL_117 : zMv RL 117 5 yX5_drop cX5_drop 3 (some .int) 1 := ⟨⟨TX5, 9, rfl⟩, ⟨zW_mem 513 (by decide +kernel) rfl, zW_mem 514 (by decide +kernel) rfl, zW_mem 515 (by decide +kernel) rfl, zW_mem 36 (by decide +kernel) rfl, zW_mem 516 (by rfl) rfl⟩, by decide +kernel, by decide +kernel, by decide +kernel⟩
set_option maxRecDepth 20000 in
theorem zmv_RL_123 : zMv RL 123 5 yX5_item cX5_item 7 (some .long) 4 := ⟨⟨TX5, 9, rfl⟩, ⟨zW_mem 517 (by decide +kernel) rfl, zW_mem 518 (by decide +kernel) rfl, zW_mem 519 (by decide +kernel) rfl, zW_mem 36 (by decide +kernel) rfl, zW_mem 520 (by rfl) rfl⟩, by decide +kernel, by decide +kernel, by decide +kernel⟩
theorem zk_RX5_228 : Cond.constantLong RX5 228 (-1) ∈ zW := zW_mem 521 (by decide +kernel) rfl
set_option maxRecDepth 20000 in
theorem zmv_RX5_230 : zMv RX5 230 4 yX4_refusal cX4_refusal 4 (some .int) 3 := ⟨⟨TX4, 3, rfl⟩, ⟨zW_mem 522 (by decide +kernel) rfl, zW_mem 523 (by decide +kernel) rfl, zW_mem 524 (by decide +kernel) rfl, zW_mem 42 (by decide +kernel) rfl, zW_mem 525 (by rfl) rfl⟩, by decide +kernel, by decide +kernel, by decide +kernel⟩
set_option maxRecDepth 20000 in
theorem zmv_RX5_234 : zMv RX5 234 4 yX4_store cX4_store 4 (some .long) 2 := ⟨⟨TX4, 3, rfl⟩, ⟨zW_mem 526 (by decide +kernel) rfl, zW_mem 527 (by decide +kernel) rfl, zW_mem 528 (by decide +kernel) rfl, zW_mem 42 (by decide +kernel) rfl, zW_mem 529 (by rfl) rfl⟩, by decide +kernel, by decide +kernel, by decide +kernel⟩
set_option maxRecDepth 20000 in
theorem zmv_RX4_28 : zMv RX4 28 4 yX4_narrowed cX4_narrowed 3 (some .long) 1 := ⟨⟨TX4, 3, rfl⟩, ⟨zW_mem 530 (by decide +kernel) rfl, zW_mem 532 (by decide +kernel) rfl, zW_mem 13 (by decide +kernel) rfl, zW_mem 42 (by decide +kernel) rfl, zW_mem 533 (by rfl) rfl⟩, by decide +kernel, by decide +kernel, by decide +kernel⟩
set_option maxRecDepth 20000 in
theorem zmv_RL_128 : zMv RL 128 5 yX5_copy cX5_copy 9 (some .int) 5 := ⟨⟨TX5, 9, rfl⟩, ⟨zW_mem 534 (by decide +kernel) rfl, zW_mem 535 (by decide +kernel) rfl, zW_mem 536 (by decide +kernel) rfl, zW_mem 36 (by decide +kernel) rfl, zW_mem 537 (by rfl) rfl⟩, by decide +kernel, by decide +kernel, by decide +kernel⟩
set_option maxRecDepth 20000 in
theorem zmv_RL_133 : zMv RL 133 5 yX5_spell cX5_spell 9 (some .int) 4 := ⟨⟨TX5, 9, rfl⟩, ⟨zW_mem 538 (by decide +kernel) rfl, zW_mem 539 (by decide +kernel) rfl, zW_mem 540 (by decide +kernel) rfl, zW_mem 36 (by decide +kernel) rfl, zW_mem 541 (by rfl) rfl⟩, by decide +kernel, by decide +kernel, by decide +kernel⟩
set_option maxRecDepth 20000 in
theorem zmv_RL_138 : zMv RL 138 5 yX5_read cX5_read 8 (some .int) 4 := ⟨⟨TX5, 9, rfl⟩, ⟨zW_mem 542 (by decide +kernel) rfl, zW_mem 543 (by decide +kernel) rfl, zW_mem 544 (by decide +kernel) rfl, zW_mem 36 (by decide +kernel) rfl, zW_mem 545 (by rfl) rfl⟩, by decide +kernel, by decide +kernel, by decide +kernel⟩
set_option maxRecDepth 20000 in
theorem zmv_RX5_251 : zMv RX5 251 4 yX4_holdsBytes cX4_holdsBytes 4 (some .boolean) 2 := ⟨⟨TX4, 3, rfl⟩, ⟨zW_mem 546 (by decide +kernel) rfl, zW_mem 547 (by decide +kernel) rfl, zW_mem 548 (by decide +kernel) rfl, zW_mem 42 (by decide +kernel) rfl, zW_mem 549 (by rfl) rfl⟩, by decide +kernel, by decide +kernel, by decide +kernel⟩
set_option maxRecDepth 20000 in
theorem zmv_RL_142 : zMv RL 142 5 yX5_count cX5_count 3 (some .int) 1 := ⟨⟨TX5, 9, rfl⟩, ⟨zW_mem 551 (by decide +kernel) rfl, zW_mem 552 (by decide +kernel) rfl, zW_mem 553 (by decide +kernel) rfl, zW_mem 36 (by decide +kernel) rfl, zW_mem 554 (by rfl) rfl⟩, by decide +kernel, by decide +kernel, by decide +kernel⟩
set_option maxRecDepth 20000 in
theorem zmv_RX5_255 : zMv RX5 255 1 yX1_allPlaces cX1_allPlaces 3 (some .int) 0 := ⟨⟨TX1, 11, rfl⟩, ⟨zW_mem 555 (by decide +kernel) rfl, zW_mem 556 (by decide +kernel) rfl, zW_mem 557 (by decide +kernel) rfl, zW_mem 37 (by decide +kernel) rfl, zW_mem 558 (by rfl) rfl⟩, by decide +kernel, by decide +kernel, by decide +kernel⟩
set_option maxRecDepth 20000 in
theorem zmv_RX5_258 : zMv RX5 258 1 yX1_evenNodes cX1_evenNodes 3 (some .int) 0 := ⟨⟨TX1, 11, rfl⟩, ⟨zW_mem 559 (by decide +kernel) rfl, zW_mem 560 (by decide +kernel) rfl, zW_mem 561 (by decide +kernel) rfl, zW_mem 37 (by decide +kernel) rfl, zW_mem 562 (by rfl) rfl⟩, by decide +kernel, by decide +kernel, by decide +kernel⟩
set_option maxRecDepth 20000 in
theorem zmv_RL_17 : zMv RL 17 6 yX6_put cX6_put 2 (some .int) 1 := ⟨⟨TX6, 18, rfl⟩, ⟨zW_mem 624 (by decide +kernel) rfl, zW_mem 625 (by decide +kernel) rfl, zW_mem 626 (by decide +kernel) rfl, zW_mem 43 (by decide +kernel) rfl, zW_mem 627 (by rfl) rfl⟩, by decide +kernel, by decide +kernel, by decide +kernel⟩
set_option maxRecDepth 20000 in
theorem zms_RX6_101 : zMs RX6 101 yX6_isLetter cX6_isLetter 1 (some .boolean) 1 := ⟨⟨zW_mem 628 (by decide +kernel) rfl, zW_mem 629 (by decide +kernel) rfl, zW_mem 43 (by decide +kernel) rfl, zW_mem 630 (by rfl) rfl⟩, by decide +kernel, by decide +kernel, by decide +kernel⟩
theorem zk_RX6_86 : Cond.constantLong RX6 86 (97) ∈ zW := zW_mem 631 (by decide +kernel) rfl
theorem zk_RX6_88 : Cond.constantLong RX6 88 (102) ∈ zW := zW_mem 632 (by decide +kernel) rfl
set_option maxRecDepth 20000 in
theorem zms_RX6_90 : zMs RX6 90 yX6_within cX6_within 6 (some .boolean) 3 := ⟨⟨zW_mem 633 (by decide +kernel) rfl, zW_mem 634 (by decide +kernel) rfl, zW_mem 43 (by decide +kernel) rfl, zW_mem 635 (by rfl) rfl⟩, by decide +kernel, by decide +kernel, by decide +kernel⟩
set_option maxRecDepth 20000 in
theorem zmv_RX6_104 : zMv RX6 104 6 yX6_note cX6_note 2 none 1 := ⟨⟨TX6, 18, rfl⟩, ⟨zW_mem 636 (by decide +kernel) rfl, zW_mem 638 (by decide +kernel) rfl, zW_mem 14 (by decide +kernel) rfl, zW_mem 43 (by decide +kernel) rfl, zW_mem 639 (by rfl) rfl⟩, by decide +kernel, by decide +kernel, by decide +kernel⟩
set_option maxRecDepth 20000 in
theorem zms_RX6_97 : zMs RX6 97 yX6_bring cX6_bring 6 none 5 := ⟨⟨zW_mem 640 (by decide +kernel) rfl, zW_mem 641 (by decide +kernel) rfl, zW_mem 43 (by decide +kernel) rfl, zW_mem 642 (by rfl) rfl⟩, by decide +kernel, by decide +kernel, by decide +kernel⟩
set_option maxRecDepth 20000 in
theorem zmv_RX6_108 : zMv RX6 108 6 yX6_push cX6_push 2 none 1 := ⟨⟨TX6, 18, rfl⟩, ⟨zW_mem 643 (by decide +kernel) rfl, zW_mem 645 (by decide +kernel) rfl, zW_mem 15 (by decide +kernel) rfl, zW_mem 43 (by decide +kernel) rfl, zW_mem 646 (by rfl) rfl⟩, by decide +kernel, by decide +kernel, by decide +kernel⟩
set_option maxRecDepth 20000 in
theorem zmv_RX6_57 : zMv RX6 57 6 yX6_endsBelow cX6_endsBelow 4 (some .int) 2 := ⟨⟨TX6, 18, rfl⟩, ⟨zW_mem 647 (by decide +kernel) rfl, zW_mem 649 (by decide +kernel) rfl, zW_mem 16 (by decide +kernel) rfl, zW_mem 43 (by decide +kernel) rfl, zW_mem 650 (by rfl) rfl⟩, by decide +kernel, by decide +kernel, by decide +kernel⟩
set_option maxRecDepth 20000 in
theorem zmv_RX6_53 : zMv RX6 53 6 yX6_isMirror cX6_isMirror 5 (some .boolean) 2 := ⟨⟨TX6, 18, rfl⟩, ⟨zW_mem 651 (by decide +kernel) rfl, zW_mem 653 (by decide +kernel) rfl, zW_mem 17 (by decide +kernel) rfl, zW_mem 43 (by decide +kernel) rfl, zW_mem 654 (by rfl) rfl⟩, by decide +kernel, by decide +kernel, by decide +kernel⟩
set_option maxRecDepth 20000 in
theorem zmv_RL_22 : zMv RL 22 6 yX6_pop cX6_pop 1 (some .int) 0 := ⟨⟨TX6, 18, rfl⟩, ⟨zW_mem 655 (by decide +kernel) rfl, zW_mem 656 (by decide +kernel) rfl, zW_mem 657 (by decide +kernel) rfl, zW_mem 43 (by decide +kernel) rfl, zW_mem 658 (by rfl) rfl⟩, by decide +kernel, by decide +kernel, by decide +kernel⟩
set_option maxRecDepth 20000 in
theorem zmv_RL_27 : zMv RL 27 6 yX6_change cX6_change 4 (some .int) 2 := ⟨⟨TX6, 18, rfl⟩, ⟨zW_mem 659 (by decide +kernel) rfl, zW_mem 660 (by decide +kernel) rfl, zW_mem 661 (by decide +kernel) rfl, zW_mem 43 (by decide +kernel) rfl, zW_mem 662 (by rfl) rfl⟩, by decide +kernel, by decide +kernel, by decide +kernel⟩
set_option maxRecDepth 20000 in
theorem zmv_RL_31 : zMv RL 31 6 yX6_undo cX6_undo 2 (some .int) 0 := ⟨⟨TX6, 18, rfl⟩, ⟨zW_mem 663 (by decide +kernel) rfl, zW_mem 664 (by decide +kernel) rfl, zW_mem 665 (by decide +kernel) rfl, zW_mem 43 (by decide +kernel) rfl, zW_mem 666 (by rfl) rfl⟩, by decide +kernel, by decide +kernel, by decide +kernel⟩
set_option maxRecDepth 20000 in
theorem zmv_RL_35 : zMv RL 35 6 yX6_letter cX6_letter 2 (some .int) 1 := ⟨⟨TX6, 18, rfl⟩, ⟨zW_mem 667 (by decide +kernel) rfl, zW_mem 668 (by decide +kernel) rfl, zW_mem 669 (by decide +kernel) rfl, zW_mem 43 (by decide +kernel) rfl, zW_mem 670 (by rfl) rfl⟩, by decide +kernel, by decide +kernel, by decide +kernel⟩
set_option maxRecDepth 20000 in
theorem zmv_RL_39 : zMv RL 39 6 yX6_node cX6_node 5 (some .int) 2 := ⟨⟨TX6, 18, rfl⟩, ⟨zW_mem 671 (by decide +kernel) rfl, zW_mem 672 (by decide +kernel) rfl, zW_mem 673 (by decide +kernel) rfl, zW_mem 43 (by decide +kernel) rfl, zW_mem 674 (by rfl) rfl⟩, by decide +kernel, by decide +kernel, by decide +kernel⟩
set_option maxRecDepth 20000 in
theorem zmv_RX6_111 : zMv RX6 111 6 yX6_lay cX6_lay 2 none 0 := ⟨⟨TX6, 18, rfl⟩, ⟨zW_mem 675 (by decide +kernel) rfl, zW_mem 677 (by decide +kernel) rfl, zW_mem 18 (by decide +kernel) rfl, zW_mem 43 (by decide +kernel) rfl, zW_mem 678 (by rfl) rfl⟩, by decide +kernel, by decide +kernel, by decide +kernel⟩
set_option maxRecDepth 20000 in
theorem zmv_RX6_72 : zMv RX6 72 6 yX6_isNew cX6_isNew 6 (some .boolean) 1 := ⟨⟨TX6, 18, rfl⟩, ⟨zW_mem 679 (by decide +kernel) rfl, zW_mem 681 (by decide +kernel) rfl, zW_mem 19 (by decide +kernel) rfl, zW_mem 43 (by decide +kernel) rfl, zW_mem 682 (by rfl) rfl⟩, by decide +kernel, by decide +kernel, by decide +kernel⟩
set_option maxRecDepth 20000 in
theorem zmv_RX6_61 : zMv RX6 61 6 yX6_isSame cX6_isSame 6 (some .boolean) 3 := ⟨⟨TX6, 18, rfl⟩, ⟨zW_mem 683 (by decide +kernel) rfl, zW_mem 685 (by decide +kernel) rfl, zW_mem 20 (by decide +kernel) rfl, zW_mem 43 (by decide +kernel) rfl, zW_mem 686 (by rfl) rfl⟩, by decide +kernel, by decide +kernel, by decide +kernel⟩
theorem zk_RX6_114 : Cond.constantLong RX6 114 (7) ∈ zW := zW_mem 687 (by decide +kernel) rfl
set_option maxRecDepth 20000 in
theorem zmv_RX6_116 : zMv RX6 116 6 yX6_stands cX6_stands 8 (some .int) 3 := ⟨⟨TX6, 18, rfl⟩, ⟨zW_mem 688 (by decide +kernel) rfl, zW_mem 690 (by decide +kernel) rfl, zW_mem 21 (by decide +kernel) rfl, zW_mem 43 (by decide +kernel) rfl, zW_mem 691 (by rfl) rfl⟩, by decide +kernel, by decide +kernel, by decide +kernel⟩
set_option maxRecDepth 20000 in
theorem zmv_RX6_79 : zMv RX6 79 6 yX6_link cX6_link 4 (some .int) 1 := ⟨⟨TX6, 18, rfl⟩, ⟨zW_mem 692 (by decide +kernel) rfl, zW_mem 694 (by decide +kernel) rfl, zW_mem 22 (by decide +kernel) rfl, zW_mem 43 (by decide +kernel) rfl, zW_mem 695 (by rfl) rfl⟩, by decide +kernel, by decide +kernel, by decide +kernel⟩
set_option maxRecDepth 20000 in
theorem zmv_RX6_76 : zMv RX6 76 6 yX6_nodeOf cX6_nodeOf 4 (some .int) 2 := ⟨⟨TX6, 18, rfl⟩, ⟨zW_mem 696 (by decide +kernel) rfl, zW_mem 698 (by decide +kernel) rfl, zW_mem 23 (by decide +kernel) rfl, zW_mem 43 (by decide +kernel) rfl, zW_mem 699 (by rfl) rfl⟩, by decide +kernel, by decide +kernel, by decide +kernel⟩
set_option maxRecDepth 20000 in
theorem zmv_RX6_83 : zMv RX6 83 6 yX6_less cX6_less 3 (some .int) 1 := ⟨⟨TX6, 18, rfl⟩, ⟨zW_mem 700 (by decide +kernel) rfl, zW_mem 702 (by decide +kernel) rfl, zW_mem 24 (by decide +kernel) rfl, zW_mem 43 (by decide +kernel) rfl, zW_mem 703 (by rfl) rfl⟩, by decide +kernel, by decide +kernel, by decide +kernel⟩
set_option maxRecDepth 20000 in
theorem zmv_RX6_120 : zMv RX6 120 6 yX6_series cX6_series 4 (some .int) 1 := ⟨⟨TX6, 18, rfl⟩, ⟨zW_mem 704 (by decide +kernel) rfl, zW_mem 706 (by decide +kernel) rfl, zW_mem 25 (by decide +kernel) rfl, zW_mem 43 (by decide +kernel) rfl, zW_mem 707 (by rfl) rfl⟩, by decide +kernel, by decide +kernel, by decide +kernel⟩
set_option maxRecDepth 20000 in
theorem zmv_RL_43 : zMv RL 43 6 yX6_keep cX6_keep 2 (some .int) 1 := ⟨⟨TX6, 18, rfl⟩, ⟨zW_mem 708 (by decide +kernel) rfl, zW_mem 709 (by decide +kernel) rfl, zW_mem 710 (by decide +kernel) rfl, zW_mem 43 (by decide +kernel) rfl, zW_mem 711 (by rfl) rfl⟩, by decide +kernel, by decide +kernel, by decide +kernel⟩
set_option maxRecDepth 20000 in
theorem zmv_RL_47 : zMv RL 47 6 yX6_back cX6_back 2 (some .int) 1 := ⟨⟨TX6, 18, rfl⟩, ⟨zW_mem 712 (by decide +kernel) rfl, zW_mem 713 (by decide +kernel) rfl, zW_mem 714 (by decide +kernel) rfl, zW_mem 43 (by decide +kernel) rfl, zW_mem 715 (by rfl) rfl⟩, by decide +kernel, by decide +kernel, by decide +kernel⟩
set_option maxRecDepth 20000 in
theorem zmv_RL_51 : zMv RL 51 6 yX6_common cX6_common 7 (some .int) 2 := ⟨⟨TX6, 18, rfl⟩, ⟨zW_mem 716 (by decide +kernel) rfl, zW_mem 717 (by decide +kernel) rfl, zW_mem 718 (by decide +kernel) rfl, zW_mem 43 (by decide +kernel) rfl, zW_mem 719 (by rfl) rfl⟩, by decide +kernel, by decide +kernel, by decide +kernel⟩
set_option maxRecDepth 20000 in
theorem zmv_RX6_123 : zMv RX6 123 6 yX6_isImaged cX6_isImaged 8 (some .boolean) 3 := ⟨⟨TX6, 18, rfl⟩, ⟨zW_mem 720 (by decide +kernel) rfl, zW_mem 722 (by decide +kernel) rfl, zW_mem 26 (by decide +kernel) rfl, zW_mem 43 (by decide +kernel) rfl, zW_mem 723 (by rfl) rfl⟩, by decide +kernel, by decide +kernel, by decide +kernel⟩
set_option maxRecDepth 20000 in
theorem zmv_RL_55 : zMv RL 55 6 yX6_ends cX6_ends 5 (some .int) 2 := ⟨⟨TX6, 18, rfl⟩, ⟨zW_mem 724 (by decide +kernel) rfl, zW_mem 725 (by decide +kernel) rfl, zW_mem 726 (by decide +kernel) rfl, zW_mem 43 (by decide +kernel) rfl, zW_mem 727 (by rfl) rfl⟩, by decide +kernel, by decide +kernel, by decide +kernel⟩
set_option maxRecDepth 20000 in
theorem zmv_RL_59 : zMv RL 59 6 yX6_groups cX6_groups 5 (some .int) 1 := ⟨⟨TX6, 18, rfl⟩, ⟨zW_mem 728 (by decide +kernel) rfl, zW_mem 729 (by decide +kernel) rfl, zW_mem 730 (by decide +kernel) rfl, zW_mem 43 (by decide +kernel) rfl, zW_mem 731 (by rfl) rfl⟩, by decide +kernel, by decide +kernel, by decide +kernel⟩
set_option maxRecDepth 20000 in
theorem zmv_RL_63 : zMv RL 63 6 yX6_cuts cX6_cuts 6 (some .int) 2 := ⟨⟨TX6, 18, rfl⟩, ⟨zW_mem 732 (by decide +kernel) rfl, zW_mem 733 (by decide +kernel) rfl, zW_mem 734 (by decide +kernel) rfl, zW_mem 43 (by decide +kernel) rfl, zW_mem 735 (by rfl) rfl⟩, by decide +kernel, by decide +kernel, by decide +kernel⟩
set_option maxRecDepth 20000 in
theorem zmv_RX6_126 : zMv RX6 126 6 yX6_layCuts cX6_layCuts 5 none 2 := ⟨⟨TX6, 18, rfl⟩, ⟨zW_mem 736 (by decide +kernel) rfl, zW_mem 738 (by decide +kernel) rfl, zW_mem 27 (by decide +kernel) rfl, zW_mem 43 (by decide +kernel) rfl, zW_mem 739 (by rfl) rfl⟩, by decide +kernel, by decide +kernel, by decide +kernel⟩
set_option maxRecDepth 20000 in
theorem zmv_RL_67 : zMv RL 67 6 yX6_evens cX6_evens 2 (some .int) 1 := ⟨⟨TX6, 18, rfl⟩, ⟨zW_mem 740 (by decide +kernel) rfl, zW_mem 741 (by decide +kernel) rfl, zW_mem 742 (by decide +kernel) rfl, zW_mem 43 (by decide +kernel) rfl, zW_mem 743 (by rfl) rfl⟩, by decide +kernel, by decide +kernel, by decide +kernel⟩
set_option maxRecDepth 20000 in
theorem zmv_RL_72 : zMv RL 72 6 yX6_in cX6_in 6 (some .int) 3 := ⟨⟨TX6, 18, rfl⟩, ⟨zW_mem 744 (by decide +kernel) rfl, zW_mem 745 (by decide +kernel) rfl, zW_mem 746 (by decide +kernel) rfl, zW_mem 43 (by decide +kernel) rfl, zW_mem 747 (by rfl) rfl⟩, by decide +kernel, by decide +kernel, by decide +kernel⟩
theorem zk_RX6_130 : Cond.constantLong RX6 130 (2) ∈ zW := zW_mem 748 (by decide +kernel) rfl
set_option maxRecDepth 20000 in
theorem zmv_RX6_132 : zMv RX6 132 6 yX6_unlike cX6_unlike 8 (some .int) 2 := ⟨⟨TX6, 18, rfl⟩, ⟨zW_mem 749 (by decide +kernel) rfl, zW_mem 751 (by decide +kernel) rfl, zW_mem 28 (by decide +kernel) rfl, zW_mem 43 (by decide +kernel) rfl, zW_mem 752 (by rfl) rfl⟩, by decide +kernel, by decide +kernel, by decide +kernel⟩
set_option maxRecDepth 20000 in
theorem zmv_RL_76 : zMv RL 76 6 yX6_mend cX6_mend 4 (some .int) 1 := ⟨⟨TX6, 18, rfl⟩, ⟨zW_mem 753 (by decide +kernel) rfl, zW_mem 754 (by decide +kernel) rfl, zW_mem 755 (by decide +kernel) rfl, zW_mem 43 (by decide +kernel) rfl, zW_mem 756 (by rfl) rfl⟩, by decide +kernel, by decide +kernel, by decide +kernel⟩
set_option maxRecDepth 20000 in
theorem zmv_RX6_135 : zMv RX6 135 6 yX6_fill cX6_fill 6 (some .int) 0 := ⟨⟨TX6, 18, rfl⟩, ⟨zW_mem 757 (by decide +kernel) rfl, zW_mem 759 (by decide +kernel) rfl, zW_mem 29 (by decide +kernel) rfl, zW_mem 43 (by decide +kernel) rfl, zW_mem 760 (by rfl) rfl⟩, by decide +kernel, by decide +kernel, by decide +kernel⟩
set_option maxRecDepth 20000 in
theorem zmv_RL_80 : zMv RL 80 6 yX6_turned cX6_turned 5 (some .int) 1 := ⟨⟨TX6, 18, rfl⟩, ⟨zW_mem 761 (by decide +kernel) rfl, zW_mem 762 (by decide +kernel) rfl, zW_mem 763 (by decide +kernel) rfl, zW_mem 43 (by decide +kernel) rfl, zW_mem 764 (by rfl) rfl⟩, by decide +kernel, by decide +kernel, by decide +kernel⟩
set_option maxRecDepth 20000 in
theorem zmv_RX6_139 : zMv RX6 139 6 yX6_isTurned cX6_isTurned 4 (some .boolean) 1 := ⟨⟨TX6, 18, rfl⟩, ⟨zW_mem 765 (by decide +kernel) rfl, zW_mem 767 (by decide +kernel) rfl, zW_mem 30 (by decide +kernel) rfl, zW_mem 43 (by decide +kernel) rfl, zW_mem 768 (by rfl) rfl⟩, by decide +kernel, by decide +kernel, by decide +kernel⟩
set_option maxRecDepth 20000 in
theorem zmv_RL_84 : zMv RL 84 6 yX6_next cX6_next 4 (some .int) 2 := ⟨⟨TX6, 18, rfl⟩, ⟨zW_mem 769 (by decide +kernel) rfl, zW_mem 770 (by decide +kernel) rfl, zW_mem 771 (by decide +kernel) rfl, zW_mem 43 (by decide +kernel) rfl, zW_mem 772 (by rfl) rfl⟩, by decide +kernel, by decide +kernel, by decide +kernel⟩
set_option maxRecDepth 20000 in
theorem zmv_RL_88 : zMv RL 88 6 yX6_grow cX6_grow 7 (some .int) 2 := ⟨⟨TX6, 18, rfl⟩, ⟨zW_mem 773 (by decide +kernel) rfl, zW_mem 774 (by decide +kernel) rfl, zW_mem 775 (by decide +kernel) rfl, zW_mem 43 (by decide +kernel) rfl, zW_mem 776 (by rfl) rfl⟩, by decide +kernel, by decide +kernel, by decide +kernel⟩
theorem zk_RX6_145 : Cond.constantLong RX6 145 (3) ∈ zW := zW_mem 777 (by decide +kernel) rfl
set_option maxRecDepth 20000 in
theorem zms_RX6_142 : zMs RX6 142 yX6_power cX6_power 3 (some .int) 1 := ⟨⟨zW_mem 778 (by decide +kernel) rfl, zW_mem 779 (by decide +kernel) rfl, zW_mem 43 (by decide +kernel) rfl, zW_mem 780 (by rfl) rfl⟩, by decide +kernel, by decide +kernel, by decide +kernel⟩
set_option maxRecDepth 20000 in
theorem zmv_RX6_147 : zMv RX6 147 6 yX6_more cX6_more 6 (some .int) 2 := ⟨⟨TX6, 18, rfl⟩, ⟨zW_mem 781 (by decide +kernel) rfl, zW_mem 783 (by decide +kernel) rfl, zW_mem 31 (by decide +kernel) rfl, zW_mem 43 (by decide +kernel) rfl, zW_mem 784 (by rfl) rfl⟩, by decide +kernel, by decide +kernel, by decide +kernel⟩
set_option maxRecDepth 20000 in
theorem zmv_RL_92 : zMv RL 92 6 yX6_odds cX6_odds 9 (some .int) 3 := ⟨⟨TX6, 18, rfl⟩, ⟨zW_mem 785 (by decide +kernel) rfl, zW_mem 786 (by decide +kernel) rfl, zW_mem 787 (by decide +kernel) rfl, zW_mem 43 (by decide +kernel) rfl, zW_mem 788 (by rfl) rfl⟩, by decide +kernel, by decide +kernel, by decide +kernel⟩
theorem zk_RX6_150 : Cond.constantLong RX6 150 (4) ∈ zW := zW_mem 789 (by decide +kernel) rfl
theorem zk_RX6_152 : Cond.constantLong RX6 152 (9) ∈ zW := zW_mem 790 (by decide +kernel) rfl
set_option maxRecDepth 20000 in
theorem zmv_RL_96 : zMv RL 96 6 yX6_walks cX6_walks 8 (some .int) 3 := ⟨⟨TX6, 18, rfl⟩, ⟨zW_mem 791 (by decide +kernel) rfl, zW_mem 792 (by decide +kernel) rfl, zW_mem 793 (by decide +kernel) rfl, zW_mem 43 (by decide +kernel) rfl, zW_mem 794 (by rfl) rfl⟩, by decide +kernel, by decide +kernel, by decide +kernel⟩
theorem zk_RX6_154 : Cond.constantLong RX6 154 (60) ∈ zW := zW_mem 795 (by decide +kernel) rfl
theorem zk_RX6_156 : Cond.constantLong RX6 156 (999999) ∈ zW := zW_mem 796 (by decide +kernel) rfl
theorem zk_RX6_158 : Cond.constantLong RX6 158 (16807) ∈ zW := zW_mem 797 (by decide +kernel) rfl
theorem zk_RX6_160 : Cond.constantLong RX6 160 (2147483647) ∈ zW := zW_mem 798 (by decide +kernel) rfl
theorem zk_RX6_162 : Cond.constantLong RX6 162 (64) ∈ zW := zW_mem 799 (by decide +kernel) rfl
theorem zk_RX6_164 : Cond.constantLong RX6 164 (6) ∈ zW := zW_mem 800 (by decide +kernel) rfl
set_option maxRecDepth 20000 in
theorem zmv_RL_100 : zMv RL 100 6 yX6_feed cX6_feed 2 (some .int) 1 := ⟨⟨TX6, 18, rfl⟩, ⟨zW_mem 801 (by decide +kernel) rfl, zW_mem 802 (by decide +kernel) rfl, zW_mem 803 (by decide +kernel) rfl, zW_mem 43 (by decide +kernel) rfl, zW_mem 804 (by rfl) rfl⟩, by decide +kernel, by decide +kernel, by decide +kernel⟩
theorem zk_RX6_166 : Cond.constantLong RX6 166 (255) ∈ zW := zW_mem 805 (by decide +kernel) rfl
set_option maxRecDepth 20000 in
theorem zmv_RL_104 : zMv RL 104 6 yX6_clear cX6_clear 2 (some .int) 0 := ⟨⟨TX6, 18, rfl⟩, ⟨zW_mem 806 (by decide +kernel) rfl, zW_mem 807 (by decide +kernel) rfl, zW_mem 808 (by decide +kernel) rfl, zW_mem 43 (by decide +kernel) rfl, zW_mem 809 (by rfl) rfl⟩, by decide +kernel, by decide +kernel, by decide +kernel⟩
set_option maxRecDepth 20000 in
theorem zmv_RL_108 : zMv RL 108 6 yX6_find cX6_find 3 (some .int) 0 := ⟨⟨TX6, 18, rfl⟩, ⟨zW_mem 810 (by decide +kernel) rfl, zW_mem 811 (by decide +kernel) rfl, zW_mem 812 (by decide +kernel) rfl, zW_mem 43 (by decide +kernel) rfl, zW_mem 813 (by rfl) rfl⟩, by decide +kernel, by decide +kernel, by decide +kernel⟩
set_option maxRecDepth 20000 in
theorem zmv_RX6_171 : zMv RX6 171 6 yX6_isTaped cX6_isTaped 4 (some .boolean) 1 := ⟨⟨TX6, 18, rfl⟩, ⟨zW_mem 814 (by decide +kernel) rfl, zW_mem 816 (by decide +kernel) rfl, zW_mem 32 (by decide +kernel) rfl, zW_mem 43 (by decide +kernel) rfl, zW_mem 817 (by rfl) rfl⟩, by decide +kernel, by decide +kernel, by decide +kernel⟩
set_option maxRecDepth 20000 in
theorem zmv_RL_112 : zMv RL 112 6 yX6_times cX6_times 3 (some .int) 0 := ⟨⟨TX6, 18, rfl⟩, ⟨zW_mem 818 (by decide +kernel) rfl, zW_mem 819 (by decide +kernel) rfl, zW_mem 820 (by decide +kernel) rfl, zW_mem 43 (by decide +kernel) rfl, zW_mem 821 (by rfl) rfl⟩, by decide +kernel, by decide +kernel, by decide +kernel⟩
set_option maxRecDepth 20000 in
theorem zmv_RL_116 : zMv RL 116 6 yX6_sheet cX6_sheet 5 (some .int) 3 := ⟨⟨TX6, 18, rfl⟩, ⟨zW_mem 822 (by decide +kernel) rfl, zW_mem 823 (by decide +kernel) rfl, zW_mem 824 (by decide +kernel) rfl, zW_mem 43 (by decide +kernel) rfl, zW_mem 825 (by rfl) rfl⟩, by decide +kernel, by decide +kernel, by decide +kernel⟩
set_option maxRecDepth 20000 in
theorem zms_RX6_174 : zMs RX6 174 yX6_isSheet cX6_isSheet 1 (some .boolean) 1 := ⟨⟨zW_mem 826 (by decide +kernel) rfl, zW_mem 827 (by decide +kernel) rfl, zW_mem 43 (by decide +kernel) rfl, zW_mem 828 (by rfl) rfl⟩, by decide +kernel, by decide +kernel, by decide +kernel⟩
set_option maxRecDepth 20000 in
theorem zmv_RL_120 : zMv RL 120 6 yX6_drop cX6_drop 2 (some .int) 1 := ⟨⟨TX6, 18, rfl⟩, ⟨zW_mem 829 (by decide +kernel) rfl, zW_mem 830 (by decide +kernel) rfl, zW_mem 831 (by decide +kernel) rfl, zW_mem 43 (by decide +kernel) rfl, zW_mem 832 (by rfl) rfl⟩, by decide +kernel, by decide +kernel, by decide +kernel⟩
set_option maxRecDepth 20000 in
theorem zmv_RL_127 : zMv RL 127 6 yX6_item cX6_item 7 (some .long) 4 := ⟨⟨TX6, 18, rfl⟩, ⟨zW_mem 833 (by decide +kernel) rfl, zW_mem 834 (by decide +kernel) rfl, zW_mem 835 (by decide +kernel) rfl, zW_mem 43 (by decide +kernel) rfl, zW_mem 836 (by rfl) rfl⟩, by decide +kernel, by decide +kernel, by decide +kernel⟩
theorem zk_RX6_179 : Cond.constantLong RX6 179 (-1) ∈ zW := zW_mem 837 (by decide +kernel) rfl
set_option maxRecDepth 20000 in
theorem zmv_RX6_181 : zMv RX6 181 6 yX6_whyNot cX6_whyNot 5 (some .int) 4 := ⟨⟨TX6, 18, rfl⟩, ⟨zW_mem 838 (by decide +kernel) rfl, zW_mem 840 (by decide +kernel) rfl, zW_mem 33 (by decide +kernel) rfl, zW_mem 43 (by decide +kernel) rfl, zW_mem 841 (by rfl) rfl⟩, by decide +kernel, by decide +kernel, by decide +kernel⟩
set_option maxRecDepth 20000 in
theorem zms_RX6_185 : zMs RX6 185 yX6_cut cX6_cut 3 (some .long) 2 := ⟨⟨zW_mem 842 (by decide +kernel) rfl, zW_mem 843 (by decide +kernel) rfl, zW_mem 43 (by decide +kernel) rfl, zW_mem 844 (by rfl) rfl⟩, by decide +kernel, by decide +kernel, by decide +kernel⟩
theorem zk_RX6_177 : Cond.constantLong RX6 177 (65535) ∈ zW := zW_mem 845 (by decide +kernel) rfl
set_option maxRecDepth 20000 in
theorem zmv_RL_132 : zMv RL 132 6 yX6_copy cX6_copy 7 (some .int) 5 := ⟨⟨TX6, 18, rfl⟩, ⟨zW_mem 846 (by decide +kernel) rfl, zW_mem 847 (by decide +kernel) rfl, zW_mem 848 (by decide +kernel) rfl, zW_mem 43 (by decide +kernel) rfl, zW_mem 849 (by rfl) rfl⟩, by decide +kernel, by decide +kernel, by decide +kernel⟩
set_option maxRecDepth 20000 in
theorem zmv_RL_137 : zMv RL 137 6 yX6_spell cX6_spell 8 (some .int) 4 := ⟨⟨TX6, 18, rfl⟩, ⟨zW_mem 850 (by decide +kernel) rfl, zW_mem 851 (by decide +kernel) rfl, zW_mem 852 (by decide +kernel) rfl, zW_mem 43 (by decide +kernel) rfl, zW_mem 853 (by rfl) rfl⟩, by decide +kernel, by decide +kernel, by decide +kernel⟩
set_option maxRecDepth 20000 in
theorem zmv_RL_141 : zMv RL 141 6 yX6_read cX6_read 7 (some .int) 4 := ⟨⟨TX6, 18, rfl⟩, ⟨zW_mem 854 (by decide +kernel) rfl, zW_mem 855 (by decide +kernel) rfl, zW_mem 856 (by decide +kernel) rfl, zW_mem 43 (by decide +kernel) rfl, zW_mem 857 (by rfl) rfl⟩, by decide +kernel, by decide +kernel, by decide +kernel⟩
theorem zk_RX6_189 : Cond.constantLong RX6 189 (48) ∈ zW := zW_mem 858 (by decide +kernel) rfl
set_option maxRecDepth 20000 in
theorem zmv_RL_145 : zMv RL 145 6 yX6_count cX6_count 2 (some .int) 1 := ⟨⟨TX6, 18, rfl⟩, ⟨zW_mem 859 (by decide +kernel) rfl, zW_mem 860 (by decide +kernel) rfl, zW_mem 861 (by decide +kernel) rfl, zW_mem 43 (by decide +kernel) rfl, zW_mem 862 (by rfl) rfl⟩, by decide +kernel, by decide +kernel, by decide +kernel⟩
set_option maxRecDepth 20000 in
theorem zmv_RX6_191 : zMv RX6 191 6 yX6_ofAll cX6_ofAll 5 (some .int) 1 := ⟨⟨TX6, 18, rfl⟩, ⟨zW_mem 863 (by decide +kernel) rfl, zW_mem 865 (by decide +kernel) rfl, zW_mem 34 (by decide +kernel) rfl, zW_mem 43 (by decide +kernel) rfl, zW_mem 866 (by rfl) rfl⟩, by decide +kernel, by decide +kernel, by decide +kernel⟩
theorem zk_RL_121 : Cond.constantLong RL 121 (4294967295) ∈ zW := zW_mem 867 (by decide +kernel) rfl
set_option maxRecDepth 20000 in
theorem zmn_RX4_32 : Cond.static yX5_isByte ∈ zW ∧ Cond.initialized yX5_isByte.cls ∈ zW ∧ Cond.code yX5_isByte cX5_isByte 2 (some .boolean) ∈ zW := ⟨zW_mem 477 (by decide +kernel) rfl, zW_mem 36 (by decide +kernel) rfl, zW_mem 478 (by rfl) rfl⟩
