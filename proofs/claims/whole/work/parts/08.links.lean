theorem tk_0 : ∀ z ∈ k2_sels lw_privs, z ∈ lw_tbl := fun _ h => List.mem_append_left _ h
theorem tk_1 : ∀ z ∈ tables_1_1, z ∈ lw_tbl := fun _ h => List.mem_append_right _ (List.mem_append_left _ h)
theorem tk_2 : ∀ z ∈ tables_1_2, z ∈ lw_tbl := fun _ h => List.mem_append_right _ (List.mem_append_right _ (List.mem_append_left _ h))
theorem tk_3 : ∀ z ∈ tables_1_3, z ∈ lw_tbl := fun _ h => List.mem_append_right _ (List.mem_append_right _ (List.mem_append_right _ (List.mem_append_left _ h)))
theorem tk_4 : ∀ z ∈ tables_1_4, z ∈ lw_tbl := fun _ h => List.mem_append_right _ (List.mem_append_right _ (List.mem_append_right _ (List.mem_append_right _ (List.mem_append_left _ h))))
theorem tk_5 : ∀ z ∈ tables_1_5, z ∈ lw_tbl := fun _ h => List.mem_append_right _ (List.mem_append_right _ (List.mem_append_right _ (List.mem_append_right _ (List.mem_append_right _ (List.mem_append_left _ h)))))
theorem tk_6 : ∀ z ∈ tables_1_6, z ∈ lw_tbl := fun _ h => List.mem_append_right _ (List.mem_append_right _ (List.mem_append_right _ (List.mem_append_right _ (List.mem_append_right _ (List.mem_append_right _ (List.mem_append_left _ h))))))
theorem tk_7 : ∀ z ∈ tables_1_7, z ∈ lw_tbl := fun _ h => List.mem_append_right _ (List.mem_append_right _ (List.mem_append_right _ (List.mem_append_right _ (List.mem_append_right _ (List.mem_append_right _ (List.mem_append_right _ (List.mem_append_left _ h)))))))
theorem tk_8 : ∀ z ∈ tables_1_8, z ∈ lw_tbl := fun _ h => List.mem_append_right _ (List.mem_append_right _ (List.mem_append_right _ (List.mem_append_right _ (List.mem_append_right _ (List.mem_append_right _ (List.mem_append_right _ (List.mem_append_right _ (List.mem_append_left _ h))))))))
theorem tk_9 : ∀ z ∈ tables_1_9, z ∈ lw_tbl := fun _ h => List.mem_append_right _ (List.mem_append_right _ (List.mem_append_right _ (List.mem_append_right _ (List.mem_append_right _ (List.mem_append_right _ (List.mem_append_right _ (List.mem_append_right _ (List.mem_append_right _ (h)))))))))
theorem iw_X0 : ∀ z ∈ u_ws RX0 TX0 4, z ∈ Wt := fun z hz => Wt_of (inX0 z hz) (List.all_eq_true.mp (show (u_ws RX0 TX0 4).all goodWord = true by decide +kernel) z hz)
theorem iw_X1 : ∀ z ∈ u_ws RX1 TX1 4, z ∈ Wt := fun z hz => Wt_of (inX1 z hz) (List.all_eq_true.mp (show (u_ws RX1 TX1 4).all goodWord = true by decide +kernel) z hz)
theorem iw_X2 : ∀ z ∈ u_ws RX2 TX2 3, z ∈ Wt := fun z hz => Wt_of (inX2 z hz) (List.all_eq_true.mp (show (u_ws RX2 TX2 3).all goodWord = true by decide +kernel) z hz)
theorem iw_X3 : ∀ z ∈ u_ws RX3 TX3 10, z ∈ Wt := fun z hz => Wt_of (inX3 z hz) (List.all_eq_true.mp (show (u_ws RX3 TX3 10).all goodWord = true by decide +kernel) z hz)
theorem iw_X4 : ∀ z ∈ u_ws RX4 TX4 19, z ∈ Wt := fun z hz => Wt_of (inX4 z hz) (List.all_eq_true.mp (show (u_ws RX4 TX4 19).all goodWord = true by decide +kernel) z hz)
theorem iw_X5 : ∀ z ∈ u_ws RX5 TX5 12, z ∈ Wt := fun z hz => Wt_of (inX5 z hz) (List.all_eq_true.mp (show (u_ws RX5 TX5 12).all goodWord = true by decide +kernel) z hz)
theorem iw_X6 : ∀ z ∈ u_ws RX6 TX6 14, z ∈ Wt := fun z hz => Wt_of (inX6 z hz) (List.all_eq_true.mp (show (u_ws RX6 TX6 14).all goodWord = true by decide +kernel) z hz)
theorem iw_X7 : ∀ z ∈ u_ws RX7 TX7 7, z ∈ Wt := fun z hz => Wt_of (inX7 z hz) (List.all_eq_true.mp (show (u_ws RX7 TX7 7).all goodWord = true by decide +kernel) z hz)
theorem iw_X8 : ∀ z ∈ u_ws RX8 TX8 2, z ∈ Wt := fun z hz => Wt_of (inX8 z hz) (List.all_eq_true.mp (show (u_ws RX8 TX8 2).all goodWord = true by decide +kernel) z hz)
theorem iw_X9 : ∀ z ∈ u_ws RX9 TX9 8, z ∈ Wt := fun z hz => Wt_of (inX9 z hz) (List.all_eq_true.mp (show (u_ws RX9 TX9 8).all goodWord = true by decide +kernel) z hz)
theorem iw_X11 : ∀ z ∈ u_ws RX11 TX11 19, z ∈ Wt := fun z hz => Wt_of (inX11 z hz) (List.all_eq_true.mp (show (u_ws RX11 TX11 19).all goodWord = true by decide +kernel) z hz)
theorem iw_X12 : ∀ z ∈ u_ws RX12 TX12 65, z ∈ Wt := fun z hz => Wt_of (inX12 z hz) (List.all_eq_true.mp (show (u_ws RX12 TX12 65).all goodWord = true by decide +kernel) z hz)
theorem fl_X11_12 : FlG RX11 12 10 0 := ⟨RX11, TX11, _, rfl, iw_X11, by decide, Wt_of (tk_2 _ (List.mem_of_getElem? (i := 204) rfl)) rfl⟩
theorem fl_X11_19 : FlG RX11 19 10 1 := ⟨RX11, TX11, _, rfl, iw_X11, by decide, Wt_of (tk_2 _ (List.mem_of_getElem? (i := 205) rfl)) rfl⟩
theorem fl_X11_23 : FlG RX11 23 10 2 := ⟨RX11, TX11, _, rfl, iw_X11, by decide, Wt_of (tk_2 _ (List.mem_of_getElem? (i := 206) rfl)) rfl⟩
theorem fl_X11_29 : FlG RX11 29 10 3 := ⟨RX11, TX11, _, rfl, iw_X11, by decide, Wt_of (tk_2 _ (List.mem_of_getElem? (i := 207) rfl)) rfl⟩
theorem fl_X11_33 : FlG RX11 33 10 4 := ⟨RX11, TX11, _, rfl, iw_X11, by decide, Wt_of (tk_2 _ (List.mem_of_getElem? (i := 208) rfl)) rfl⟩
theorem fl_X11_41 : FlG RX11 41 10 5 := ⟨RX11, TX11, _, rfl, iw_X11, by decide, Wt_of (tk_2 _ (List.mem_of_getElem? (i := 209) rfl)) rfl⟩
theorem fl_X11_48 : FlG RX11 48 10 6 := ⟨RX11, TX11, _, rfl, iw_X11, by decide, Wt_of (tk_2 _ (List.mem_of_getElem? (i := 210) rfl)) rfl⟩
theorem fl_X11_57 : FlG RX11 57 10 7 := ⟨RX11, TX11, _, rfl, iw_X11, by decide, Wt_of (tk_2 _ (List.mem_of_getElem? (i := 211) rfl)) rfl⟩
theorem fl_X11_66 : FlG RX11 66 10 8 := ⟨RX11, TX11, _, rfl, iw_X11, by decide, Wt_of (tk_2 _ (List.mem_of_getElem? (i := 212) rfl)) rfl⟩
theorem fl_X11_75 : FlG RX11 75 10 9 := ⟨RX11, TX11, _, rfl, iw_X11, by decide, Wt_of (tk_2 _ (List.mem_of_getElem? (i := 213) rfl)) rfl⟩
theorem fl_X11_82 : FlG RX11 82 10 10 := ⟨RX11, TX11, _, rfl, iw_X11, by decide, Wt_of (tk_2 _ (List.mem_of_getElem? (i := 214) rfl)) rfl⟩
theorem fl_X11_89 : FlG RX11 89 10 11 := ⟨RX11, TX11, _, rfl, iw_X11, by decide, Wt_of (tk_2 _ (List.mem_of_getElem? (i := 215) rfl)) rfl⟩
theorem fl_X11_93 : FlG RX11 93 10 12 := ⟨RX11, TX11, _, rfl, iw_X11, by decide, Wt_of (tk_2 _ (List.mem_of_getElem? (i := 216) rfl)) rfl⟩
theorem fl_X11_97 : FlG RX11 97 10 13 := ⟨RX11, TX11, _, rfl, iw_X11, by decide, Wt_of (tk_2 _ (List.mem_of_getElem? (i := 217) rfl)) rfl⟩
theorem flp_X11_100 : FlP RX11 100 10 14 .int := ⟨RX11, TX11, _, rfl, iw_X11, by decide, Wt_of (tk_2 _ (List.mem_of_getElem? (i := 218) rfl)) rfl, ⟨tyX11, tyX11_ok⟩, nmX11, rfl, rfl⟩
theorem fl_X11_100 : FlG RX11 100 10 14 := flp_X11_100.g
theorem flp_X11_104 : FlP RX11 104 10 15 .int := ⟨RX11, TX11, _, rfl, iw_X11, by decide, Wt_of (tk_2 _ (List.mem_of_getElem? (i := 219) rfl)) rfl, ⟨tyX11, tyX11_ok⟩, nmX11, rfl, rfl⟩
theorem fl_X11_104 : FlG RX11 104 10 15 := flp_X11_104.g
theorem flp_X11_107 : FlP RX11 107 10 16 .int := ⟨RX11, TX11, _, rfl, iw_X11, by decide, Wt_of (tk_2 _ (List.mem_of_getElem? (i := 220) rfl)) rfl, ⟨tyX11, tyX11_ok⟩, nmX11, rfl, rfl⟩
theorem fl_X11_107 : FlG RX11 107 10 16 := flp_X11_107.g
theorem flp_X11_110 : FlP RX11 110 10 17 .long := ⟨RX11, TX11, _, rfl, iw_X11, by decide, Wt_of (tk_2 _ (List.mem_of_getElem? (i := 221) rfl)) rfl, ⟨tyX11, tyX11_ok⟩, nmX11, rfl, rfl⟩
theorem fl_X11_110 : FlG RX11 110 10 17 := flp_X11_110.g
theorem flp_X11_114 : FlP RX11 114 10 18 .boolean := ⟨RX11, TX11, _, rfl, iw_X11, by decide, Wt_of (tk_2 _ (List.mem_of_getElem? (i := 222) rfl)) rfl, ⟨tyX11, tyX11_ok⟩, nmX11, rfl, rfl⟩
theorem fl_X11_114 : FlG RX11 114 10 18 := flp_X11_114.g
theorem fl_X11_141 : FlG RX11 141 5 0 := ⟨RX5, TX5, _, rfl, iw_X5, by decide, Wt_of (tk_1 _ (List.mem_of_getElem? (i := 207) rfl)) rfl⟩
theorem fl_X11_144 : FlG RX11 144 5 1 := ⟨RX5, TX5, _, rfl, iw_X5, by decide, Wt_of (tk_1 _ (List.mem_of_getElem? (i := 209) rfl)) rfl⟩
theorem fl_X11_160 : FlG RX11 160 5 2 := ⟨RX5, TX5, _, rfl, iw_X5, by decide, Wt_of (tk_1 _ (List.mem_of_getElem? (i := 211) rfl)) rfl⟩
theorem fl_X11_163 : FlG RX11 163 4 0 := ⟨RX4, TX4, _, rfl, iw_X4, by decide, Wt_of (tk_1 _ (List.mem_of_getElem? (i := 55) rfl)) rfl⟩
theorem fl_X11_166 : FlG RX11 166 4 1 := ⟨RX4, TX4, _, rfl, iw_X4, by decide, Wt_of (tk_1 _ (List.mem_of_getElem? (i := 60) rfl)) rfl⟩
theorem fl_X11_169 : FlG RX11 169 4 2 := ⟨RX4, TX4, _, rfl, iw_X4, by decide, Wt_of (tk_1 _ (List.mem_of_getElem? (i := 63) rfl)) rfl⟩
theorem fl_X11_172 : FlG RX11 172 4 5 := ⟨RX4, TX4, _, rfl, iw_X4, by decide, Wt_of (tk_1 _ (List.mem_of_getElem? (i := 75) rfl)) rfl⟩
theorem fl_X11_175 : FlG RX11 175 4 6 := ⟨RX4, TX4, _, rfl, iw_X4, by decide, Wt_of (tk_1 _ (List.mem_of_getElem? (i := 83) rfl)) rfl⟩
theorem fl_X11_178 : FlG RX11 178 1 0 := ⟨RX1, TX1, _, rfl, iw_X1, by decide, Wt_of (tk_1 _ (List.mem_of_getElem? (i := 176) rfl)) rfl⟩
theorem fl_X11_186 : FlG RX11 186 4 7 := ⟨RX4, TX4, _, rfl, iw_X4, by decide, Wt_of (tk_1 _ (List.mem_of_getElem? (i := 87) rfl)) rfl⟩
theorem fl_X11_189 : FlG RX11 189 4 3 := ⟨RX4, TX4, _, rfl, iw_X4, by decide, Wt_of (tk_1 _ (List.mem_of_getElem? (i := 69) rfl)) rfl⟩
theorem fl_X11_192 : FlG RX11 192 4 4 := ⟨RX4, TX4, _, rfl, iw_X4, by decide, Wt_of (tk_1 _ (List.mem_of_getElem? (i := 72) rfl)) rfl⟩
theorem fl_X11_195 : FlG RX11 195 3 0 := ⟨RX3, TX3, _, rfl, iw_X3, by decide, Wt_of (tk_2 _ (List.mem_of_getElem? (i := 171) rfl)) rfl⟩
theorem fl_X11_198 : FlG RX11 198 2 0 := ⟨RX2, TX2, _, rfl, iw_X2, by decide, Wt_of (tk_2 _ (List.mem_of_getElem? (i := 16) rfl)) rfl⟩
theorem fl_X11_204 : FlG RX11 204 4 9 := ⟨RX4, TX4, _, rfl, iw_X4, by decide, Wt_of (tk_1 _ (List.mem_of_getElem? (i := 93) rfl)) rfl⟩
theorem fl_X11_214 : FlG RX11 214 4 12 := ⟨RX4, TX4, _, rfl, iw_X4, by decide, Wt_of (tk_1 _ (List.mem_of_getElem? (i := 106) rfl)) rfl⟩
theorem fl_X11_220 : FlG RX11 220 4 14 := ⟨RX4, TX4, _, rfl, iw_X4, by decide, Wt_of (tk_1 _ (List.mem_of_getElem? (i := 114) rfl)) rfl⟩
theorem fl_X11_223 : FlG RX11 223 1 1 := ⟨RX1, TX1, _, rfl, iw_X1, by decide, Wt_of (tk_1 _ (List.mem_of_getElem? (i := 181) rfl)) rfl⟩
theorem fl_X11_226 : FlG RX11 226 4 10 := ⟨RX4, TX4, _, rfl, iw_X4, by decide, Wt_of (tk_1 _ (List.mem_of_getElem? (i := 97) rfl)) rfl⟩
theorem fl_X11_229 : FlG RX11 229 4 11 := ⟨RX4, TX4, _, rfl, iw_X4, by decide, Wt_of (tk_1 _ (List.mem_of_getElem? (i := 103) rfl)) rfl⟩
theorem fl_X11_235 : FlG RX11 235 4 13 := ⟨RX4, TX4, _, rfl, iw_X4, by decide, Wt_of (tk_1 _ (List.mem_of_getElem? (i := 111) rfl)) rfl⟩
theorem fl_X11_238 : FlG RX11 238 1 2 := ⟨RX1, TX1, _, rfl, iw_X1, by decide, Wt_of (tk_1 _ (List.mem_of_getElem? (i := 186) rfl)) rfl⟩
theorem fl_X11_241 : FlG RX11 241 1 3 := ⟨RX1, TX1, _, rfl, iw_X1, by decide, Wt_of (tk_1 _ (List.mem_of_getElem? (i := 190) rfl)) rfl⟩
theorem fl_X11_250 : FlG RX11 250 4 15 := ⟨RX4, TX4, _, rfl, iw_X4, by decide, Wt_of (tk_1 _ (List.mem_of_getElem? (i := 118) rfl)) rfl⟩
theorem fl_X11_253 : FlG RX11 253 4 16 := ⟨RX4, TX4, _, rfl, iw_X4, by decide, Wt_of (tk_1 _ (List.mem_of_getElem? (i := 122) rfl)) rfl⟩
theorem fl_X11_256 : FlG RX11 256 4 17 := ⟨RX4, TX4, _, rfl, iw_X4, by decide, Wt_of (tk_1 _ (List.mem_of_getElem? (i := 125) rfl)) rfl⟩
theorem fl_X11_259 : FlG RX11 259 4 18 := ⟨RX4, TX4, _, rfl, iw_X4, by decide, Wt_of (tk_1 _ (List.mem_of_getElem? (i := 128) rfl)) rfl⟩
theorem fl_X11_286 : FlG RX11 286 4 8 := ⟨RX4, TX4, _, rfl, iw_X4, by decide, Wt_of (tk_1 _ (List.mem_of_getElem? (i := 90) rfl)) rfl⟩
theorem fl_X11_302 : FlG RX11 302 7 0 := ⟨RX7, TX7, _, rfl, iw_X7, by decide, Wt_of (tk_2 _ (List.mem_of_getElem? (i := 83) rfl)) rfl⟩
theorem fl_X11_305 : FlG RX11 305 7 1 := ⟨RX7, TX7, _, rfl, iw_X7, by decide, Wt_of (tk_2 _ (List.mem_of_getElem? (i := 85) rfl)) rfl⟩
theorem fl_X11_308 : FlG RX11 308 7 2 := ⟨RX7, TX7, _, rfl, iw_X7, by decide, Wt_of (tk_2 _ (List.mem_of_getElem? (i := 87) rfl)) rfl⟩
theorem fl_X11_362 : FlG RX11 362 9 0 := ⟨RX9, TX9, _, rfl, iw_X9, by decide, Wt_of (tk_2 _ (List.mem_of_getElem? (i := 116) rfl)) rfl⟩
theorem fl_X11_365 : FlG RX11 365 9 3 := ⟨RX9, TX9, _, rfl, iw_X9, by decide, Wt_of (tk_2 _ (List.mem_of_getElem? (i := 122) rfl)) rfl⟩
theorem fl_X11_372 : FlG RX11 372 9 2 := ⟨RX9, TX9, _, rfl, iw_X9, by decide, Wt_of (tk_2 _ (List.mem_of_getElem? (i := 120) rfl)) rfl⟩
theorem fl_X11_406 : FlG RX11 406 9 1 := ⟨RX9, TX9, _, rfl, iw_X9, by decide, Wt_of (tk_2 _ (List.mem_of_getElem? (i := 118) rfl)) rfl⟩
theorem fl_X11_435 : FlG RX11 435 3 1 := ⟨RX3, TX3, _, rfl, iw_X3, by decide, Wt_of (tk_2 _ (List.mem_of_getElem? (i := 173) rfl)) rfl⟩
theorem fl_X11_438 : FlG RX11 438 3 2 := ⟨RX3, TX3, _, rfl, iw_X3, by decide, Wt_of (tk_2 _ (List.mem_of_getElem? (i := 175) rfl)) rfl⟩
theorem fl_X11_489 : FlG RX11 489 0 0 := ⟨RX0, TX0, _, rfl, iw_X0, by decide, Wt_of (tk_2 _ (List.mem_of_getElem? (i := 151) rfl)) rfl⟩
theorem flp_X0_7 : FlP RX0 7 0 0 .int := ⟨RX0, TX0, _, rfl, iw_X0, by decide, Wt_of (tk_2 _ (List.mem_of_getElem? (i := 150) rfl)) rfl, ⟨tyX0, tyX0_ok⟩, nmX0, rfl, rfl⟩
theorem fl_X0_7 : FlG RX0 7 0 0 := flp_X0_7.g
theorem flp_X0_13 : FlP RX0 13 0 1 .int := ⟨RX0, TX0, _, rfl, iw_X0, by decide, Wt_of (tk_2 _ (List.mem_of_getElem? (i := 152) rfl)) rfl, ⟨tyX0, tyX0_ok⟩, nmX0, rfl, rfl⟩
theorem fl_X0_13 : FlG RX0 13 0 1 := flp_X0_13.g
theorem fl_X0_16 : FlG RX0 16 0 2 := ⟨RX0, TX0, _, rfl, iw_X0, by decide, Wt_of (tk_2 _ (List.mem_of_getElem? (i := 153) rfl)) rfl⟩
theorem fl_X0_20 : FlG RX0 20 0 3 := ⟨RX0, TX0, _, rfl, iw_X0, by decide, Wt_of (tk_2 _ (List.mem_of_getElem? (i := 154) rfl)) rfl⟩
theorem fl_X0_24 : FlG RX0 24 4 7 := ⟨RX4, TX4, _, rfl, iw_X4, by decide, Wt_of (tk_1 _ (List.mem_of_getElem? (i := 85) rfl)) rfl⟩
theorem fl_X0_31 : FlG RX0 31 4 15 := ⟨RX4, TX4, _, rfl, iw_X4, by decide, Wt_of (tk_1 _ (List.mem_of_getElem? (i := 116) rfl)) rfl⟩
theorem fl_X0_35 : FlG RX0 35 4 16 := ⟨RX4, TX4, _, rfl, iw_X4, by decide, Wt_of (tk_1 _ (List.mem_of_getElem? (i := 120) rfl)) rfl⟩
theorem flp_X1_9 : FlP RX1 9 1 0 .int := ⟨RX1, TX1, _, rfl, iw_X1, by decide, Wt_of (tk_1 _ (List.mem_of_getElem? (i := 174) rfl)) rfl, ⟨tyX1, tyX1_ok⟩, nmX1, rfl, rfl⟩
theorem fl_X1_9 : FlG RX1 9 1 0 := flp_X1_9.g
theorem fl_X1_15 : FlG RX1 15 1 1 := ⟨RX1, TX1, _, rfl, iw_X1, by decide, Wt_of (tk_1 _ (List.mem_of_getElem? (i := 177) rfl)) rfl⟩
theorem fl_X1_19 : FlG RX1 19 1 2 := ⟨RX1, TX1, _, rfl, iw_X1, by decide, Wt_of (tk_1 _ (List.mem_of_getElem? (i := 182) rfl)) rfl⟩
theorem fl_X1_22 : FlG RX1 22 1 3 := ⟨RX1, TX1, _, rfl, iw_X1, by decide, Wt_of (tk_1 _ (List.mem_of_getElem? (i := 187) rfl)) rfl⟩
theorem fl_X1_42 : FlG RX1 42 4 11 := ⟨RX4, TX4, _, rfl, iw_X4, by decide, Wt_of (tk_1 _ (List.mem_of_getElem? (i := 101) rfl)) rfl⟩
theorem fl_X1_45 : FlG RX1 45 4 6 := ⟨RX4, TX4, _, rfl, iw_X4, by decide, Wt_of (tk_1 _ (List.mem_of_getElem? (i := 81) rfl)) rfl⟩
theorem fl_X1_55 : FlG RX1 55 4 5 := ⟨RX4, TX4, _, rfl, iw_X4, by decide, Wt_of (tk_1 _ (List.mem_of_getElem? (i := 76) rfl)) rfl⟩
theorem fl_X1_78 : FlG RX1 78 4 0 := ⟨RX4, TX4, _, rfl, iw_X4, by decide, Wt_of (tk_1 _ (List.mem_of_getElem? (i := 56) rfl)) rfl⟩
theorem flp_X2_9 : FlP RX2 9 2 0 .int := ⟨RX2, TX2, _, rfl, iw_X2, by decide, Wt_of (tk_2 _ (List.mem_of_getElem? (i := 15) rfl)) rfl, ⟨tyX2, tyX2_ok⟩, nmX2, rfl, rfl⟩
theorem fl_X2_9 : FlG RX2 9 2 0 := flp_X2_9.g
theorem flp_X2_15 : FlP RX2 15 2 1 .int := ⟨RX2, TX2, _, rfl, iw_X2, by decide, Wt_of (tk_2 _ (List.mem_of_getElem? (i := 17) rfl)) rfl, ⟨tyX2, tyX2_ok⟩, nmX2, rfl, rfl⟩
theorem fl_X2_15 : FlG RX2 15 2 1 := flp_X2_15.g
theorem fl_X2_20 : FlG RX2 20 2 2 := ⟨RX2, TX2, _, rfl, iw_X2, by decide, Wt_of (tk_2 _ (List.mem_of_getElem? (i := 18) rfl)) rfl⟩
theorem flp_X3_9 : FlP RX3 9 3 0 .int := ⟨RX3, TX3, _, rfl, iw_X3, by decide, Wt_of (tk_2 _ (List.mem_of_getElem? (i := 170) rfl)) rfl, ⟨tyX3, tyX3_ok⟩, nmX3, rfl, rfl⟩
theorem fl_X3_9 : FlG RX3 9 3 0 := flp_X3_9.g
theorem flp_X3_15 : FlP RX3 15 3 1 .int := ⟨RX3, TX3, _, rfl, iw_X3, by decide, Wt_of (tk_2 _ (List.mem_of_getElem? (i := 172) rfl)) rfl, ⟨tyX3, tyX3_ok⟩, nmX3, rfl, rfl⟩
theorem fl_X3_15 : FlG RX3 15 3 1 := flp_X3_15.g
theorem flp_X3_18 : FlP RX3 18 3 2 .int := ⟨RX3, TX3, _, rfl, iw_X3, by decide, Wt_of (tk_2 _ (List.mem_of_getElem? (i := 174) rfl)) rfl, ⟨tyX3, tyX3_ok⟩, nmX3, rfl, rfl⟩
theorem fl_X3_18 : FlG RX3 18 3 2 := flp_X3_18.g
theorem fl_X3_21 : FlG RX3 21 3 3 := ⟨RX3, TX3, _, rfl, iw_X3, by decide, Wt_of (tk_2 _ (List.mem_of_getElem? (i := 176) rfl)) rfl⟩
theorem fl_X3_25 : FlG RX3 25 3 4 := ⟨RX3, TX3, _, rfl, iw_X3, by decide, Wt_of (tk_2 _ (List.mem_of_getElem? (i := 177) rfl)) rfl⟩
theorem fl_X3_28 : FlG RX3 28 3 5 := ⟨RX3, TX3, _, rfl, iw_X3, by decide, Wt_of (tk_2 _ (List.mem_of_getElem? (i := 178) rfl)) rfl⟩
theorem fl_X3_31 : FlG RX3 31 3 6 := ⟨RX3, TX3, _, rfl, iw_X3, by decide, Wt_of (tk_2 _ (List.mem_of_getElem? (i := 179) rfl)) rfl⟩
theorem fl_X3_34 : FlG RX3 34 3 7 := ⟨RX3, TX3, _, rfl, iw_X3, by decide, Wt_of (tk_2 _ (List.mem_of_getElem? (i := 180) rfl)) rfl⟩
theorem fl_X3_37 : FlG RX3 37 3 8 := ⟨RX3, TX3, _, rfl, iw_X3, by decide, Wt_of (tk_2 _ (List.mem_of_getElem? (i := 181) rfl)) rfl⟩
theorem fl_X3_41 : FlG RX3 41 3 9 := ⟨RX3, TX3, _, rfl, iw_X3, by decide, Wt_of (tk_2 _ (List.mem_of_getElem? (i := 182) rfl)) rfl⟩
theorem fl_X3_65 : FlG RX3 65 4 3 := ⟨RX4, TX4, _, rfl, iw_X4, by decide, Wt_of (tk_1 _ (List.mem_of_getElem? (i := 67) rfl)) rfl⟩
theorem fl_X3_68 : FlG RX3 68 4 6 := ⟨RX4, TX4, _, rfl, iw_X4, by decide, Wt_of (tk_1 _ (List.mem_of_getElem? (i := 78) rfl)) rfl⟩
theorem flp_X4_9 : FlP RX4 9 4 0 .int := ⟨RX4, TX4, _, rfl, iw_X4, by decide, Wt_of (tk_1 _ (List.mem_of_getElem? (i := 51) rfl)) rfl, ⟨tyX4, tyX4_ok⟩, nmX4, rfl, rfl⟩
theorem fl_X4_9 : FlG RX4 9 4 0 := flp_X4_9.g
theorem flp_X4_15 : FlP RX4 15 4 1 .int := ⟨RX4, TX4, _, rfl, iw_X4, by decide, Wt_of (tk_1 _ (List.mem_of_getElem? (i := 57) rfl)) rfl, ⟨tyX4, tyX4_ok⟩, nmX4, rfl, rfl⟩
theorem fl_X4_15 : FlG RX4 15 4 1 := flp_X4_15.g
theorem flp_X4_18 : FlP RX4 18 4 2 .int := ⟨RX4, TX4, _, rfl, iw_X4, by decide, Wt_of (tk_1 _ (List.mem_of_getElem? (i := 61) rfl)) rfl, ⟨tyX4, tyX4_ok⟩, nmX4, rfl, rfl⟩
theorem fl_X4_18 : FlG RX4 18 4 2 := flp_X4_18.g
theorem flp_X4_21 : FlP RX4 21 4 3 .int := ⟨RX4, TX4, _, rfl, iw_X4, by decide, Wt_of (tk_1 _ (List.mem_of_getElem? (i := 65) rfl)) rfl, ⟨tyX4, tyX4_ok⟩, nmX4, rfl, rfl⟩
theorem fl_X4_21 : FlG RX4 21 4 3 := flp_X4_21.g
theorem flp_X4_24 : FlP RX4 24 4 4 .int := ⟨RX4, TX4, _, rfl, iw_X4, by decide, Wt_of (tk_1 _ (List.mem_of_getElem? (i := 70) rfl)) rfl, ⟨tyX4, tyX4_ok⟩, nmX4, rfl, rfl⟩
theorem fl_X4_24 : FlG RX4 24 4 4 := flp_X4_24.g
theorem flp_X4_27 : FlP RX4 27 4 5 .int := ⟨RX4, TX4, _, rfl, iw_X4, by decide, Wt_of (tk_1 _ (List.mem_of_getElem? (i := 73) rfl)) rfl, ⟨tyX4, tyX4_ok⟩, nmX4, rfl, rfl⟩
theorem fl_X4_27 : FlG RX4 27 4 5 := flp_X4_27.g
theorem flp_X4_30 : FlP RX4 30 4 6 .int := ⟨RX4, TX4, _, rfl, iw_X4, by decide, Wt_of (tk_1 _ (List.mem_of_getElem? (i := 77) rfl)) rfl, ⟨tyX4, tyX4_ok⟩, nmX4, rfl, rfl⟩
theorem fl_X4_30 : FlG RX4 30 4 6 := flp_X4_30.g
theorem flp_X4_33 : FlP RX4 33 4 7 .int := ⟨RX4, TX4, _, rfl, iw_X4, by decide, Wt_of (tk_1 _ (List.mem_of_getElem? (i := 84) rfl)) rfl, ⟨tyX4, tyX4_ok⟩, nmX4, rfl, rfl⟩
theorem fl_X4_33 : FlG RX4 33 4 7 := flp_X4_33.g
theorem fl_X4_36 : FlG RX4 36 4 8 := ⟨RX4, TX4, _, rfl, iw_X4, by decide, Wt_of (tk_1 _ (List.mem_of_getElem? (i := 88) rfl)) rfl⟩
theorem fl_X4_40 : FlG RX4 40 4 9 := ⟨RX4, TX4, _, rfl, iw_X4, by decide, Wt_of (tk_1 _ (List.mem_of_getElem? (i := 91) rfl)) rfl⟩
theorem fl_X4_43 : FlG RX4 43 4 10 := ⟨RX4, TX4, _, rfl, iw_X4, by decide, Wt_of (tk_1 _ (List.mem_of_getElem? (i := 94) rfl)) rfl⟩
theorem fl_X4_46 : FlG RX4 46 4 11 := ⟨RX4, TX4, _, rfl, iw_X4, by decide, Wt_of (tk_1 _ (List.mem_of_getElem? (i := 98) rfl)) rfl⟩
theorem fl_X4_49 : FlG RX4 49 4 12 := ⟨RX4, TX4, _, rfl, iw_X4, by decide, Wt_of (tk_1 _ (List.mem_of_getElem? (i := 104) rfl)) rfl⟩
theorem fl_X4_52 : FlG RX4 52 4 13 := ⟨RX4, TX4, _, rfl, iw_X4, by decide, Wt_of (tk_1 _ (List.mem_of_getElem? (i := 107) rfl)) rfl⟩
theorem fl_X4_55 : FlG RX4 55 4 14 := ⟨RX4, TX4, _, rfl, iw_X4, by decide, Wt_of (tk_1 _ (List.mem_of_getElem? (i := 112) rfl)) rfl⟩
theorem fl_X4_58 : FlG RX4 58 4 15 := ⟨RX4, TX4, _, rfl, iw_X4, by decide, Wt_of (tk_1 _ (List.mem_of_getElem? (i := 115) rfl)) rfl⟩
theorem fl_X4_61 : FlG RX4 61 4 16 := ⟨RX4, TX4, _, rfl, iw_X4, by decide, Wt_of (tk_1 _ (List.mem_of_getElem? (i := 119) rfl)) rfl⟩
theorem fl_X4_64 : FlG RX4 64 4 17 := ⟨RX4, TX4, _, rfl, iw_X4, by decide, Wt_of (tk_1 _ (List.mem_of_getElem? (i := 123) rfl)) rfl⟩
theorem fl_X4_67 : FlG RX4 67 4 18 := ⟨RX4, TX4, _, rfl, iw_X4, by decide, Wt_of (tk_1 _ (List.mem_of_getElem? (i := 126) rfl)) rfl⟩
theorem flp_X5_9 : FlP RX5 9 5 0 .int := ⟨RX5, TX5, _, rfl, iw_X5, by decide, Wt_of (tk_1 _ (List.mem_of_getElem? (i := 206) rfl)) rfl, ⟨tyX5, tyX5_ok⟩, nmX5, rfl, rfl⟩
theorem fl_X5_9 : FlG RX5 9 5 0 := flp_X5_9.g
theorem flp_X5_15 : FlP RX5 15 5 1 .int := ⟨RX5, TX5, _, rfl, iw_X5, by decide, Wt_of (tk_1 _ (List.mem_of_getElem? (i := 208) rfl)) rfl, ⟨tyX5, tyX5_ok⟩, nmX5, rfl, rfl⟩
theorem fl_X5_15 : FlG RX5 15 5 1 := flp_X5_15.g
theorem flp_X5_18 : FlP RX5 18 5 2 .int := ⟨RX5, TX5, _, rfl, iw_X5, by decide, Wt_of (tk_1 _ (List.mem_of_getElem? (i := 210) rfl)) rfl, ⟨tyX5, tyX5_ok⟩, nmX5, rfl, rfl⟩
theorem fl_X5_18 : FlG RX5 18 5 2 := flp_X5_18.g
theorem flp_X5_21 : FlP RX5 21 5 6 .int := ⟨RX5, TX5, _, rfl, iw_X5, by decide, Wt_of (tk_1 _ (List.mem_of_getElem? (i := 215) rfl)) rfl, ⟨tyX5, tyX5_ok⟩, nmX5, rfl, rfl⟩
theorem fl_X5_21 : FlG RX5 21 5 6 := flp_X5_21.g
theorem flp_X5_24 : FlP RX5 24 5 7 .int := ⟨RX5, TX5, _, rfl, iw_X5, by decide, Wt_of (tk_1 _ (List.mem_of_getElem? (i := 216) rfl)) rfl, ⟨tyX5, tyX5_ok⟩, nmX5, rfl, rfl⟩
theorem fl_X5_24 : FlG RX5 24 5 7 := flp_X5_24.g
theorem flp_X5_27 : FlP RX5 27 5 8 .int := ⟨RX5, TX5, _, rfl, iw_X5, by decide, Wt_of (tk_1 _ (List.mem_of_getElem? (i := 217) rfl)) rfl, ⟨tyX5, tyX5_ok⟩, nmX5, rfl, rfl⟩
theorem fl_X5_27 : FlG RX5 27 5 8 := flp_X5_27.g
theorem flp_X5_30 : FlP RX5 30 5 9 .int := ⟨RX5, TX5, _, rfl, iw_X5, by decide, Wt_of (tk_1 _ (List.mem_of_getElem? (i := 218) rfl)) rfl, ⟨tyX5, tyX5_ok⟩, nmX5, rfl, rfl⟩
theorem fl_X5_30 : FlG RX5 30 5 9 := flp_X5_30.g
theorem flp_X5_33 : FlP RX5 33 5 10 .int := ⟨RX5, TX5, _, rfl, iw_X5, by decide, Wt_of (tk_1 _ (List.mem_of_getElem? (i := 219) rfl)) rfl, ⟨tyX5, tyX5_ok⟩, nmX5, rfl, rfl⟩
theorem fl_X5_33 : FlG RX5 33 5 10 := flp_X5_33.g
theorem flp_X5_36 : FlP RX5 36 5 11 .boolean := ⟨RX5, TX5, _, rfl, iw_X5, by decide, Wt_of (tk_1 _ (List.mem_of_getElem? (i := 220) rfl)) rfl, ⟨tyX5, tyX5_ok⟩, nmX5, rfl, rfl⟩
theorem fl_X5_36 : FlG RX5 36 5 11 := flp_X5_36.g
theorem fl_X5_40 : FlG RX5 40 5 3 := ⟨RX5, TX5, _, rfl, iw_X5, by decide, Wt_of (tk_1 _ (List.mem_of_getElem? (i := 212) rfl)) rfl⟩
theorem fl_X5_44 : FlG RX5 44 5 4 := ⟨RX5, TX5, _, rfl, iw_X5, by decide, Wt_of (tk_1 _ (List.mem_of_getElem? (i := 213) rfl)) rfl⟩
theorem fl_X5_48 : FlG RX5 48 5 5 := ⟨RX5, TX5, _, rfl, iw_X5, by decide, Wt_of (tk_1 _ (List.mem_of_getElem? (i := 214) rfl)) rfl⟩
theorem flp_X5_116 : FlP RX5 116 4 0 .int := ⟨RX4, TX4, _, rfl, iw_X4, by decide, Wt_of (tk_1 _ (List.mem_of_getElem? (i := 53) rfl)) rfl, ⟨tyX4, tyX4_ok⟩, nmX4, rfl, rfl⟩
theorem fl_X5_116 : FlG RX5 116 4 0 := flp_X5_116.g
theorem flp_X5_121 : FlP RX5 121 4 1 .int := ⟨RX4, TX4, _, rfl, iw_X4, by decide, Wt_of (tk_1 _ (List.mem_of_getElem? (i := 59) rfl)) rfl, ⟨tyX4, tyX4_ok⟩, nmX4, rfl, rfl⟩
theorem fl_X5_121 : FlG RX5 121 4 1 := flp_X5_121.g
theorem flp_X5_126 : FlP RX5 126 4 2 .int := ⟨RX4, TX4, _, rfl, iw_X4, by decide, Wt_of (tk_1 _ (List.mem_of_getElem? (i := 62) rfl)) rfl, ⟨tyX4, tyX4_ok⟩, nmX4, rfl, rfl⟩
theorem fl_X5_126 : FlG RX5 126 4 2 := flp_X5_126.g
theorem flp_X5_131 : FlP RX5 131 4 5 .int := ⟨RX4, TX4, _, rfl, iw_X4, by decide, Wt_of (tk_1 _ (List.mem_of_getElem? (i := 74) rfl)) rfl, ⟨tyX4, tyX4_ok⟩, nmX4, rfl, rfl⟩
theorem fl_X5_131 : FlG RX5 131 4 5 := flp_X5_131.g
theorem fl_X5_140 : FlG RX5 140 4 9 := ⟨RX4, TX4, _, rfl, iw_X4, by decide, Wt_of (tk_1 _ (List.mem_of_getElem? (i := 92) rfl)) rfl⟩
theorem fl_X5_146 : FlG RX5 146 1 1 := ⟨RX1, TX1, _, rfl, iw_X1, by decide, Wt_of (tk_1 _ (List.mem_of_getElem? (i := 179) rfl)) rfl⟩
theorem fl_X5_151 : FlG RX5 151 4 10 := ⟨RX4, TX4, _, rfl, iw_X4, by decide, Wt_of (tk_1 _ (List.mem_of_getElem? (i := 95) rfl)) rfl⟩
theorem fl_X5_156 : FlG RX5 156 4 11 := ⟨RX4, TX4, _, rfl, iw_X4, by decide, Wt_of (tk_1 _ (List.mem_of_getElem? (i := 99) rfl)) rfl⟩
theorem flp_X5_159 : FlP RX5 159 4 6 .int := ⟨RX4, TX4, _, rfl, iw_X4, by decide, Wt_of (tk_1 _ (List.mem_of_getElem? (i := 79) rfl)) rfl, ⟨tyX4, tyX4_ok⟩, nmX4, rfl, rfl⟩
theorem fl_X5_159 : FlG RX5 159 4 6 := flp_X5_159.g
theorem fl_X5_162 : FlG RX5 162 4 12 := ⟨RX4, TX4, _, rfl, iw_X4, by decide, Wt_of (tk_1 _ (List.mem_of_getElem? (i := 105) rfl)) rfl⟩
theorem fl_X5_170 : FlG RX5 170 4 13 := ⟨RX4, TX4, _, rfl, iw_X4, by decide, Wt_of (tk_1 _ (List.mem_of_getElem? (i := 108) rfl)) rfl⟩
theorem fl_X5_179 : FlG RX5 179 1 2 := ⟨RX1, TX1, _, rfl, iw_X1, by decide, Wt_of (tk_1 _ (List.mem_of_getElem? (i := 184) rfl)) rfl⟩
theorem fl_X5_184 : FlG RX5 184 1 3 := ⟨RX1, TX1, _, rfl, iw_X1, by decide, Wt_of (tk_1 _ (List.mem_of_getElem? (i := 188) rfl)) rfl⟩
theorem flp_X5_191 : FlP RX5 191 4 7 .int := ⟨RX4, TX4, _, rfl, iw_X4, by decide, Wt_of (tk_1 _ (List.mem_of_getElem? (i := 86) rfl)) rfl, ⟨tyX4, tyX4_ok⟩, nmX4, rfl, rfl⟩
theorem fl_X5_191 : FlG RX5 191 4 7 := flp_X5_191.g
theorem fl_X5_194 : FlG RX5 194 4 14 := ⟨RX4, TX4, _, rfl, iw_X4, by decide, Wt_of (tk_1 _ (List.mem_of_getElem? (i := 113) rfl)) rfl⟩
theorem fl_X5_198 : FlG RX5 198 4 15 := ⟨RX4, TX4, _, rfl, iw_X4, by decide, Wt_of (tk_1 _ (List.mem_of_getElem? (i := 117) rfl)) rfl⟩
theorem fl_X5_201 : FlG RX5 201 4 16 := ⟨RX4, TX4, _, rfl, iw_X4, by decide, Wt_of (tk_1 _ (List.mem_of_getElem? (i := 121) rfl)) rfl⟩
theorem fl_X5_206 : FlG RX5 206 4 17 := ⟨RX4, TX4, _, rfl, iw_X4, by decide, Wt_of (tk_1 _ (List.mem_of_getElem? (i := 124) rfl)) rfl⟩
theorem fl_X5_211 : FlG RX5 211 4 18 := ⟨RX4, TX4, _, rfl, iw_X4, by decide, Wt_of (tk_1 _ (List.mem_of_getElem? (i := 127) rfl)) rfl⟩
theorem flp_X6_9 : FlP RX6 9 6 1 .int := ⟨RX6, TX6, _, rfl, iw_X6, by decide, Wt_of (tk_2 _ (List.mem_of_getElem? (i := 33) rfl)) rfl, ⟨tyX6, tyX6_ok⟩, nmX6, rfl, rfl⟩
theorem fl_X6_9 : FlG RX6 9 6 1 := flp_X6_9.g
theorem flp_X6_15 : FlP RX6 15 6 2 .int := ⟨RX6, TX6, _, rfl, iw_X6, by decide, Wt_of (tk_2 _ (List.mem_of_getElem? (i := 34) rfl)) rfl, ⟨tyX6, tyX6_ok⟩, nmX6, rfl, rfl⟩
theorem fl_X6_15 : FlG RX6 15 6 2 := flp_X6_15.g
theorem fl_X6_18 : FlG RX6 18 6 3 := ⟨RX6, TX6, _, rfl, iw_X6, by decide, Wt_of (tk_2 _ (List.mem_of_getElem? (i := 35) rfl)) rfl⟩
theorem fl_X6_22 : FlG RX6 22 6 4 := ⟨RX6, TX6, _, rfl, iw_X6, by decide, Wt_of (tk_2 _ (List.mem_of_getElem? (i := 36) rfl)) rfl⟩
theorem fl_X6_26 : FlG RX6 26 6 5 := ⟨RX6, TX6, _, rfl, iw_X6, by decide, Wt_of (tk_2 _ (List.mem_of_getElem? (i := 37) rfl)) rfl⟩
theorem fl_X6_29 : FlG RX6 29 6 6 := ⟨RX6, TX6, _, rfl, iw_X6, by decide, Wt_of (tk_2 _ (List.mem_of_getElem? (i := 38) rfl)) rfl⟩
theorem fl_X6_32 : FlG RX6 32 6 7 := ⟨RX6, TX6, _, rfl, iw_X6, by decide, Wt_of (tk_2 _ (List.mem_of_getElem? (i := 39) rfl)) rfl⟩
theorem fl_X6_35 : FlG RX6 35 6 8 := ⟨RX6, TX6, _, rfl, iw_X6, by decide, Wt_of (tk_2 _ (List.mem_of_getElem? (i := 40) rfl)) rfl⟩
theorem fl_X6_38 : FlG RX6 38 6 9 := ⟨RX6, TX6, _, rfl, iw_X6, by decide, Wt_of (tk_2 _ (List.mem_of_getElem? (i := 41) rfl)) rfl⟩
theorem fl_X6_41 : FlG RX6 41 6 10 := ⟨RX6, TX6, _, rfl, iw_X6, by decide, Wt_of (tk_2 _ (List.mem_of_getElem? (i := 42) rfl)) rfl⟩
theorem fl_X6_44 : FlG RX6 44 6 11 := ⟨RX6, TX6, _, rfl, iw_X6, by decide, Wt_of (tk_2 _ (List.mem_of_getElem? (i := 43) rfl)) rfl⟩
theorem fl_X6_47 : FlG RX6 47 6 12 := ⟨RX6, TX6, _, rfl, iw_X6, by decide, Wt_of (tk_2 _ (List.mem_of_getElem? (i := 44) rfl)) rfl⟩
theorem fl_X6_50 : FlG RX6 50 6 13 := ⟨RX6, TX6, _, rfl, iw_X6, by decide, Wt_of (tk_2 _ (List.mem_of_getElem? (i := 45) rfl)) rfl⟩
theorem fl_X6_53 : FlG RX6 53 6 0 := ⟨RX6, TX6, _, rfl, iw_X6, by decide, Wt_of (tk_2 _ (List.mem_of_getElem? (i := 32) rfl)) rfl⟩
theorem fl_X6_57 : FlG RX6 57 4 0 := ⟨RX4, TX4, _, rfl, iw_X4, by decide, Wt_of (tk_1 _ (List.mem_of_getElem? (i := 52) rfl)) rfl⟩
theorem fl_X6_62 : FlG RX6 62 4 1 := ⟨RX4, TX4, _, rfl, iw_X4, by decide, Wt_of (tk_1 _ (List.mem_of_getElem? (i := 58) rfl)) rfl⟩
theorem fl_X6_65 : FlG RX6 65 4 4 := ⟨RX4, TX4, _, rfl, iw_X4, by decide, Wt_of (tk_1 _ (List.mem_of_getElem? (i := 71) rfl)) rfl⟩
theorem fl_X6_68 : FlG RX6 68 4 8 := ⟨RX4, TX4, _, rfl, iw_X4, by decide, Wt_of (tk_1 _ (List.mem_of_getElem? (i := 89) rfl)) rfl⟩
theorem fl_X6_81 : FlG RX6 81 4 6 := ⟨RX4, TX4, _, rfl, iw_X4, by decide, Wt_of (tk_1 _ (List.mem_of_getElem? (i := 80) rfl)) rfl⟩
theorem fl_X6_88 : FlG RX6 88 1 1 := ⟨RX1, TX1, _, rfl, iw_X1, by decide, Wt_of (tk_1 _ (List.mem_of_getElem? (i := 180) rfl)) rfl⟩
theorem fl_X6_93 : FlG RX6 93 4 13 := ⟨RX4, TX4, _, rfl, iw_X4, by decide, Wt_of (tk_1 _ (List.mem_of_getElem? (i := 109) rfl)) rfl⟩
theorem fl_X6_96 : FlG RX6 96 1 2 := ⟨RX1, TX1, _, rfl, iw_X1, by decide, Wt_of (tk_1 _ (List.mem_of_getElem? (i := 185) rfl)) rfl⟩
theorem fl_X6_99 : FlG RX6 99 1 3 := ⟨RX1, TX1, _, rfl, iw_X1, by decide, Wt_of (tk_1 _ (List.mem_of_getElem? (i := 189) rfl)) rfl⟩
theorem fl_X6_106 : FlG RX6 106 4 3 := ⟨RX4, TX4, _, rfl, iw_X4, by decide, Wt_of (tk_1 _ (List.mem_of_getElem? (i := 68) rfl)) rfl⟩
theorem fl_X6_117 : FlG RX6 117 4 11 := ⟨RX4, TX4, _, rfl, iw_X4, by decide, Wt_of (tk_1 _ (List.mem_of_getElem? (i := 102) rfl)) rfl⟩
theorem fl_X6_120 : FlG RX6 120 4 10 := ⟨RX4, TX4, _, rfl, iw_X4, by decide, Wt_of (tk_1 _ (List.mem_of_getElem? (i := 96) rfl)) rfl⟩
theorem fl_X6_129 : FlG RX6 129 4 2 := ⟨RX4, TX4, _, rfl, iw_X4, by decide, Wt_of (tk_1 _ (List.mem_of_getElem? (i := 64) rfl)) rfl⟩
theorem flp_X7_11 : FlP RX7 11 7 0 .int := ⟨RX7, TX7, _, rfl, iw_X7, by decide, Wt_of (tk_2 _ (List.mem_of_getElem? (i := 82) rfl)) rfl, ⟨tyX7, tyX7_ok⟩, nmX7, rfl, rfl⟩
theorem fl_X7_11 : FlG RX7 11 7 0 := flp_X7_11.g
theorem flp_X7_15 : FlP RX7 15 7 1 .int := ⟨RX7, TX7, _, rfl, iw_X7, by decide, Wt_of (tk_2 _ (List.mem_of_getElem? (i := 84) rfl)) rfl, ⟨tyX7, tyX7_ok⟩, nmX7, rfl, rfl⟩
theorem fl_X7_15 : FlG RX7 15 7 1 := flp_X7_15.g
theorem flp_X7_18 : FlP RX7 18 7 2 .int := ⟨RX7, TX7, _, rfl, iw_X7, by decide, Wt_of (tk_2 _ (List.mem_of_getElem? (i := 86) rfl)) rfl, ⟨tyX7, tyX7_ok⟩, nmX7, rfl, rfl⟩
theorem fl_X7_18 : FlG RX7 18 7 2 := flp_X7_18.g
theorem flp_X7_21 : FlP RX7 21 7 3 .int := ⟨RX7, TX7, _, rfl, iw_X7, by decide, Wt_of (tk_2 _ (List.mem_of_getElem? (i := 88) rfl)) rfl, ⟨tyX7, tyX7_ok⟩, nmX7, rfl, rfl⟩
theorem fl_X7_21 : FlG RX7 21 7 3 := flp_X7_21.g
theorem fl_X7_24 : FlG RX7 24 7 6 := ⟨RX7, TX7, _, rfl, iw_X7, by decide, Wt_of (tk_2 _ (List.mem_of_getElem? (i := 91) rfl)) rfl⟩
theorem fl_X7_28 : FlG RX7 28 7 4 := ⟨RX7, TX7, _, rfl, iw_X7, by decide, Wt_of (tk_2 _ (List.mem_of_getElem? (i := 89) rfl)) rfl⟩
theorem fl_X7_32 : FlG RX7 32 7 5 := ⟨RX7, TX7, _, rfl, iw_X7, by decide, Wt_of (tk_2 _ (List.mem_of_getElem? (i := 90) rfl)) rfl⟩
theorem fl_X7_36 : FlG RX7 36 4 3 := ⟨RX4, TX4, _, rfl, iw_X4, by decide, Wt_of (tk_1 _ (List.mem_of_getElem? (i := 66) rfl)) rfl⟩
theorem fl_X8_9 : FlG RX8 9 8 0 := ⟨RX8, TX8, _, rfl, iw_X8, by decide, Wt_of (tk_1 _ (List.mem_of_getElem? (i := 37) rfl)) rfl⟩
theorem flp_X8_15 : FlP RX8 15 8 1 .int := ⟨RX8, TX8, _, rfl, iw_X8, by decide, Wt_of (tk_1 _ (List.mem_of_getElem? (i := 38) rfl)) rfl, ⟨tyX8, tyX8_ok⟩, nmX8, rfl, rfl⟩
theorem fl_X8_15 : FlG RX8 15 8 1 := flp_X8_15.g
theorem flp_X9_9 : FlP RX9 9 9 0 .int := ⟨RX9, TX9, _, rfl, iw_X9, by decide, Wt_of (tk_2 _ (List.mem_of_getElem? (i := 115) rfl)) rfl, ⟨tyX9, tyX9_ok⟩, nmX9, rfl, rfl⟩
theorem fl_X9_9 : FlG RX9 9 9 0 := flp_X9_9.g
theorem flp_X9_15 : FlP RX9 15 9 1 .int := ⟨RX9, TX9, _, rfl, iw_X9, by decide, Wt_of (tk_2 _ (List.mem_of_getElem? (i := 117) rfl)) rfl, ⟨tyX9, tyX9_ok⟩, nmX9, rfl, rfl⟩
theorem fl_X9_15 : FlG RX9 15 9 1 := flp_X9_15.g
theorem flp_X9_18 : FlP RX9 18 9 2 .int := ⟨RX9, TX9, _, rfl, iw_X9, by decide, Wt_of (tk_2 _ (List.mem_of_getElem? (i := 119) rfl)) rfl, ⟨tyX9, tyX9_ok⟩, nmX9, rfl, rfl⟩
theorem fl_X9_18 : FlG RX9 18 9 2 := flp_X9_18.g
theorem flp_X9_21 : FlP RX9 21 9 3 .float := ⟨RX9, TX9, _, rfl, iw_X9, by decide, Wt_of (tk_2 _ (List.mem_of_getElem? (i := 121) rfl)) rfl, ⟨tyX9, tyX9_ok⟩, nmX9, rfl, rfl⟩
theorem fl_X9_21 : FlG RX9 21 9 3 := flp_X9_21.g
theorem fl_X9_28 : FlG RX9 28 9 7 := ⟨RX9, TX9, _, rfl, iw_X9, by decide, Wt_of (tk_2 _ (List.mem_of_getElem? (i := 126) rfl)) rfl⟩
theorem fl_X9_32 : FlG RX9 32 9 4 := ⟨RX9, TX9, _, rfl, iw_X9, by decide, Wt_of (tk_2 _ (List.mem_of_getElem? (i := 123) rfl)) rfl⟩
theorem fl_X9_36 : FlG RX9 36 9 5 := ⟨RX9, TX9, _, rfl, iw_X9, by decide, Wt_of (tk_2 _ (List.mem_of_getElem? (i := 124) rfl)) rfl⟩
theorem fl_X9_40 : FlG RX9 40 9 6 := ⟨RX9, TX9, _, rfl, iw_X9, by decide, Wt_of (tk_2 _ (List.mem_of_getElem? (i := 125) rfl)) rfl⟩
theorem fl_X9_50 : FlG RX9 50 1 0 := ⟨RX1, TX1, _, rfl, iw_X1, by decide, Wt_of (tk_1 _ (List.mem_of_getElem? (i := 175) rfl)) rfl⟩
theorem fl_X9_65 : FlG RX9 65 1 2 := ⟨RX1, TX1, _, rfl, iw_X1, by decide, Wt_of (tk_1 _ (List.mem_of_getElem? (i := 183) rfl)) rfl⟩
theorem fl_X9_82 : FlG RX9 82 4 0 := ⟨RX4, TX4, _, rfl, iw_X4, by decide, Wt_of (tk_1 _ (List.mem_of_getElem? (i := 54) rfl)) rfl⟩
theorem fl_X9_85 : FlG RX9 85 1 1 := ⟨RX1, TX1, _, rfl, iw_X1, by decide, Wt_of (tk_1 _ (List.mem_of_getElem? (i := 178) rfl)) rfl⟩
theorem fl_X9_91 : FlG RX9 91 4 11 := ⟨RX4, TX4, _, rfl, iw_X4, by decide, Wt_of (tk_1 _ (List.mem_of_getElem? (i := 100) rfl)) rfl⟩
theorem fl_X9_101 : FlG RX9 101 4 13 := ⟨RX4, TX4, _, rfl, iw_X4, by decide, Wt_of (tk_1 _ (List.mem_of_getElem? (i := 110) rfl)) rfl⟩
theorem fl_X9_104 : FlG RX9 104 4 6 := ⟨RX4, TX4, _, rfl, iw_X4, by decide, Wt_of (tk_1 _ (List.mem_of_getElem? (i := 82) rfl)) rfl⟩
theorem flp_X12_7 : FlP RX12 7 11 0 .boolean := ⟨RX12, TX12, _, rfl, iw_X12, by decide, Wt_of (tk_6 _ (List.mem_of_getElem? (i := 179) rfl)) rfl, ⟨tyX12, tyX12_ok⟩, nmX12, rfl, rfl⟩
theorem fl_X12_7 : FlG RX12 7 11 0 := flp_X12_7.g
theorem flp_X12_13 : FlP RX12 13 11 1 .int := ⟨RX12, TX12, _, rfl, iw_X12, by decide, Wt_of (tk_6 _ (List.mem_of_getElem? (i := 180) rfl)) rfl, ⟨tyX12, tyX12_ok⟩, nmX12, rfl, rfl⟩
theorem fl_X12_13 : FlG RX12 13 11 1 := flp_X12_13.g
theorem flp_X12_17 : FlP RX12 17 11 2 .int := ⟨RX12, TX12, _, rfl, iw_X12, by decide, Wt_of (tk_6 _ (List.mem_of_getElem? (i := 181) rfl)) rfl, ⟨tyX12, tyX12_ok⟩, nmX12, rfl, rfl⟩
theorem fl_X12_17 : FlG RX12 17 11 2 := flp_X12_17.g
theorem flp_X12_20 : FlP RX12 20 11 3 .int := ⟨RX12, TX12, _, rfl, iw_X12, by decide, Wt_of (tk_6 _ (List.mem_of_getElem? (i := 182) rfl)) rfl, ⟨tyX12, tyX12_ok⟩, nmX12, rfl, rfl⟩
theorem fl_X12_20 : FlG RX12 20 11 3 := flp_X12_20.g
theorem flp_X12_23 : FlP RX12 23 11 4 .int := ⟨RX12, TX12, _, rfl, iw_X12, by decide, Wt_of (tk_6 _ (List.mem_of_getElem? (i := 183) rfl)) rfl, ⟨tyX12, tyX12_ok⟩, nmX12, rfl, rfl⟩
theorem fl_X12_23 : FlG RX12 23 11 4 := flp_X12_23.g
theorem flp_X12_26 : FlP RX12 26 11 5 .int := ⟨RX12, TX12, _, rfl, iw_X12, by decide, Wt_of (tk_6 _ (List.mem_of_getElem? (i := 184) rfl)) rfl, ⟨tyX12, tyX12_ok⟩, nmX12, rfl, rfl⟩
theorem fl_X12_26 : FlG RX12 26 11 5 := flp_X12_26.g
theorem flp_X12_29 : FlP RX12 29 11 6 .int := ⟨RX12, TX12, _, rfl, iw_X12, by decide, Wt_of (tk_6 _ (List.mem_of_getElem? (i := 185) rfl)) rfl, ⟨tyX12, tyX12_ok⟩, nmX12, rfl, rfl⟩
theorem fl_X12_29 : FlG RX12 29 11 6 := flp_X12_29.g
theorem flp_X12_32 : FlP RX12 32 11 7 .int := ⟨RX12, TX12, _, rfl, iw_X12, by decide, Wt_of (tk_6 _ (List.mem_of_getElem? (i := 186) rfl)) rfl, ⟨tyX12, tyX12_ok⟩, nmX12, rfl, rfl⟩
theorem fl_X12_32 : FlG RX12 32 11 7 := flp_X12_32.g
theorem flp_X12_35 : FlP RX12 35 11 8 .int := ⟨RX12, TX12, _, rfl, iw_X12, by decide, Wt_of (tk_6 _ (List.mem_of_getElem? (i := 187) rfl)) rfl, ⟨tyX12, tyX12_ok⟩, nmX12, rfl, rfl⟩
theorem fl_X12_35 : FlG RX12 35 11 8 := flp_X12_35.g
theorem flp_X12_38 : FlP RX12 38 11 9 .int := ⟨RX12, TX12, _, rfl, iw_X12, by decide, Wt_of (tk_6 _ (List.mem_of_getElem? (i := 188) rfl)) rfl, ⟨tyX12, tyX12_ok⟩, nmX12, rfl, rfl⟩
theorem fl_X12_38 : FlG RX12 38 11 9 := flp_X12_38.g
theorem fl_X12_41 : FlG RX12 41 11 10 := ⟨RX12, TX12, _, rfl, iw_X12, by decide, Wt_of (tk_6 _ (List.mem_of_getElem? (i := 189) rfl)) rfl⟩
theorem fl_X12_45 : FlG RX12 45 11 11 := ⟨RX12, TX12, _, rfl, iw_X12, by decide, Wt_of (tk_6 _ (List.mem_of_getElem? (i := 190) rfl)) rfl⟩
theorem fl_X12_48 : FlG RX12 48 11 12 := ⟨RX12, TX12, _, rfl, iw_X12, by decide, Wt_of (tk_6 _ (List.mem_of_getElem? (i := 191) rfl)) rfl⟩
theorem fl_X12_51 : FlG RX12 51 11 13 := ⟨RX12, TX12, _, rfl, iw_X12, by decide, Wt_of (tk_6 _ (List.mem_of_getElem? (i := 192) rfl)) rfl⟩
theorem fl_X12_54 : FlG RX12 54 11 14 := ⟨RX12, TX12, _, rfl, iw_X12, by decide, Wt_of (tk_6 _ (List.mem_of_getElem? (i := 193) rfl)) rfl⟩
theorem fl_X12_57 : FlG RX12 57 11 15 := ⟨RX12, TX12, _, rfl, iw_X12, by decide, Wt_of (tk_6 _ (List.mem_of_getElem? (i := 194) rfl)) rfl⟩
theorem fl_X12_60 : FlG RX12 60 11 16 := ⟨RX12, TX12, _, rfl, iw_X12, by decide, Wt_of (tk_6 _ (List.mem_of_getElem? (i := 195) rfl)) rfl⟩
theorem fl_X12_63 : FlG RX12 63 11 17 := ⟨RX12, TX12, _, rfl, iw_X12, by decide, Wt_of (tk_6 _ (List.mem_of_getElem? (i := 196) rfl)) rfl⟩
theorem flp_X12_66 : FlP RX12 66 11 18 .int := ⟨RX12, TX12, _, rfl, iw_X12, by decide, Wt_of (tk_6 _ (List.mem_of_getElem? (i := 197) rfl)) rfl, ⟨tyX12, tyX12_ok⟩, nmX12, rfl, rfl⟩
theorem fl_X12_66 : FlG RX12 66 11 18 := flp_X12_66.g
theorem flp_X12_69 : FlP RX12 69 11 19 .int := ⟨RX12, TX12, _, rfl, iw_X12, by decide, Wt_of (tk_6 _ (List.mem_of_getElem? (i := 198) rfl)) rfl, ⟨tyX12, tyX12_ok⟩, nmX12, rfl, rfl⟩
theorem fl_X12_69 : FlG RX12 69 11 19 := flp_X12_69.g
theorem flp_X12_72 : FlP RX12 72 11 20 .int := ⟨RX12, TX12, _, rfl, iw_X12, by decide, Wt_of (tk_6 _ (List.mem_of_getElem? (i := 199) rfl)) rfl, ⟨tyX12, tyX12_ok⟩, nmX12, rfl, rfl⟩
theorem fl_X12_72 : FlG RX12 72 11 20 := flp_X12_72.g
theorem flp_X12_75 : FlP RX12 75 11 21 .int := ⟨RX12, TX12, _, rfl, iw_X12, by decide, Wt_of (tk_6 _ (List.mem_of_getElem? (i := 200) rfl)) rfl, ⟨tyX12, tyX12_ok⟩, nmX12, rfl, rfl⟩
theorem fl_X12_75 : FlG RX12 75 11 21 := flp_X12_75.g
theorem flp_X12_78 : FlP RX12 78 11 22 .int := ⟨RX12, TX12, _, rfl, iw_X12, by decide, Wt_of (tk_6 _ (List.mem_of_getElem? (i := 201) rfl)) rfl, ⟨tyX12, tyX12_ok⟩, nmX12, rfl, rfl⟩
theorem fl_X12_78 : FlG RX12 78 11 22 := flp_X12_78.g
theorem flp_X12_81 : FlP RX12 81 11 23 .int := ⟨RX12, TX12, _, rfl, iw_X12, by decide, Wt_of (tk_6 _ (List.mem_of_getElem? (i := 202) rfl)) rfl, ⟨tyX12, tyX12_ok⟩, nmX12, rfl, rfl⟩
theorem fl_X12_81 : FlG RX12 81 11 23 := flp_X12_81.g
theorem fl_X12_84 : FlG RX12 84 11 24 := ⟨RX12, TX12, _, rfl, iw_X12, by decide, Wt_of (tk_6 _ (List.mem_of_getElem? (i := 203) rfl)) rfl⟩
theorem fl_X12_87 : FlG RX12 87 11 25 := ⟨RX12, TX12, _, rfl, iw_X12, by decide, Wt_of (tk_6 _ (List.mem_of_getElem? (i := 204) rfl)) rfl⟩
theorem fl_X12_90 : FlG RX12 90 11 26 := ⟨RX12, TX12, _, rfl, iw_X12, by decide, Wt_of (tk_6 _ (List.mem_of_getElem? (i := 205) rfl)) rfl⟩
theorem fl_X12_93 : FlG RX12 93 11 27 := ⟨RX12, TX12, _, rfl, iw_X12, by decide, Wt_of (tk_6 _ (List.mem_of_getElem? (i := 206) rfl)) rfl⟩
theorem fl_X12_96 : FlG RX12 96 11 28 := ⟨RX12, TX12, _, rfl, iw_X12, by decide, Wt_of (tk_6 _ (List.mem_of_getElem? (i := 207) rfl)) rfl⟩
theorem fl_X12_99 : FlG RX12 99 11 29 := ⟨RX12, TX12, _, rfl, iw_X12, by decide, Wt_of (tk_6 _ (List.mem_of_getElem? (i := 208) rfl)) rfl⟩
theorem fl_X12_102 : FlG RX12 102 11 30 := ⟨RX12, TX12, _, rfl, iw_X12, by decide, Wt_of (tk_6 _ (List.mem_of_getElem? (i := 209) rfl)) rfl⟩
theorem fl_X12_105 : FlG RX12 105 11 31 := ⟨RX12, TX12, _, rfl, iw_X12, by decide, Wt_of (tk_6 _ (List.mem_of_getElem? (i := 210) rfl)) rfl⟩
theorem fl_X12_108 : FlG RX12 108 11 32 := ⟨RX12, TX12, _, rfl, iw_X12, by decide, Wt_of (tk_6 _ (List.mem_of_getElem? (i := 211) rfl)) rfl⟩
theorem flp_X12_111 : FlP RX12 111 11 33 .int := ⟨RX12, TX12, _, rfl, iw_X12, by decide, Wt_of (tk_6 _ (List.mem_of_getElem? (i := 212) rfl)) rfl, ⟨tyX12, tyX12_ok⟩, nmX12, rfl, rfl⟩
theorem fl_X12_111 : FlG RX12 111 11 33 := flp_X12_111.g
theorem fl_X12_114 : FlG RX12 114 11 34 := ⟨RX12, TX12, _, rfl, iw_X12, by decide, Wt_of (tk_6 _ (List.mem_of_getElem? (i := 213) rfl)) rfl⟩
theorem flp_X12_117 : FlP RX12 117 11 35 .int := ⟨RX12, TX12, _, rfl, iw_X12, by decide, Wt_of (tk_6 _ (List.mem_of_getElem? (i := 214) rfl)) rfl, ⟨tyX12, tyX12_ok⟩, nmX12, rfl, rfl⟩
theorem fl_X12_117 : FlG RX12 117 11 35 := flp_X12_117.g
theorem flp_X12_120 : FlP RX12 120 11 36 .int := ⟨RX12, TX12, _, rfl, iw_X12, by decide, Wt_of (tk_6 _ (List.mem_of_getElem? (i := 215) rfl)) rfl, ⟨tyX12, tyX12_ok⟩, nmX12, rfl, rfl⟩
theorem fl_X12_120 : FlG RX12 120 11 36 := flp_X12_120.g
theorem flp_X12_123 : FlP RX12 123 11 37 .int := ⟨RX12, TX12, _, rfl, iw_X12, by decide, Wt_of (tk_6 _ (List.mem_of_getElem? (i := 216) rfl)) rfl, ⟨tyX12, tyX12_ok⟩, nmX12, rfl, rfl⟩
theorem fl_X12_123 : FlG RX12 123 11 37 := flp_X12_123.g
theorem flp_X12_126 : FlP RX12 126 11 38 .int := ⟨RX12, TX12, _, rfl, iw_X12, by decide, Wt_of (tk_6 _ (List.mem_of_getElem? (i := 217) rfl)) rfl, ⟨tyX12, tyX12_ok⟩, nmX12, rfl, rfl⟩
theorem fl_X12_126 : FlG RX12 126 11 38 := flp_X12_126.g
theorem flp_X12_129 : FlP RX12 129 11 39 .int := ⟨RX12, TX12, _, rfl, iw_X12, by decide, Wt_of (tk_6 _ (List.mem_of_getElem? (i := 218) rfl)) rfl, ⟨tyX12, tyX12_ok⟩, nmX12, rfl, rfl⟩
theorem fl_X12_129 : FlG RX12 129 11 39 := flp_X12_129.g
theorem flp_X12_132 : FlP RX12 132 11 40 .int := ⟨RX12, TX12, _, rfl, iw_X12, by decide, Wt_of (tk_6 _ (List.mem_of_getElem? (i := 219) rfl)) rfl, ⟨tyX12, tyX12_ok⟩, nmX12, rfl, rfl⟩
theorem fl_X12_132 : FlG RX12 132 11 40 := flp_X12_132.g
theorem flp_X12_135 : FlP RX12 135 11 41 .int := ⟨RX12, TX12, _, rfl, iw_X12, by decide, Wt_of (tk_6 _ (List.mem_of_getElem? (i := 220) rfl)) rfl, ⟨tyX12, tyX12_ok⟩, nmX12, rfl, rfl⟩
theorem fl_X12_135 : FlG RX12 135 11 41 := flp_X12_135.g
theorem fl_X12_138 : FlG RX12 138 11 42 := ⟨RX12, TX12, _, rfl, iw_X12, by decide, Wt_of (tk_6 _ (List.mem_of_getElem? (i := 221) rfl)) rfl⟩
theorem fl_X12_141 : FlG RX12 141 11 43 := ⟨RX12, TX12, _, rfl, iw_X12, by decide, Wt_of (tk_6 _ (List.mem_of_getElem? (i := 222) rfl)) rfl⟩
theorem fl_X12_144 : FlG RX12 144 11 44 := ⟨RX12, TX12, _, rfl, iw_X12, by decide, Wt_of (tk_6 _ (List.mem_of_getElem? (i := 223) rfl)) rfl⟩
theorem flp_X12_147 : FlP RX12 147 11 45 .int := ⟨RX12, TX12, _, rfl, iw_X12, by decide, Wt_of (tk_6 _ (List.mem_of_getElem? (i := 224) rfl)) rfl, ⟨tyX12, tyX12_ok⟩, nmX12, rfl, rfl⟩
theorem fl_X12_147 : FlG RX12 147 11 45 := flp_X12_147.g
theorem fl_X12_151 : FlG RX12 151 11 46 := ⟨RX12, TX12, _, rfl, iw_X12, by decide, Wt_of (tk_6 _ (List.mem_of_getElem? (i := 225) rfl)) rfl⟩
theorem flp_X12_154 : FlP RX12 154 11 47 .boolean := ⟨RX12, TX12, _, rfl, iw_X12, by decide, Wt_of (tk_6 _ (List.mem_of_getElem? (i := 226) rfl)) rfl, ⟨tyX12, tyX12_ok⟩, nmX12, rfl, rfl⟩
theorem fl_X12_154 : FlG RX12 154 11 47 := flp_X12_154.g
theorem fl_X12_157 : FlG RX12 157 11 48 := ⟨RX12, TX12, _, rfl, iw_X12, by decide, Wt_of (tk_6 _ (List.mem_of_getElem? (i := 227) rfl)) rfl⟩
theorem fl_X12_160 : FlG RX12 160 11 49 := ⟨RX12, TX12, _, rfl, iw_X12, by decide, Wt_of (tk_6 _ (List.mem_of_getElem? (i := 228) rfl)) rfl⟩
theorem flp_X12_163 : FlP RX12 163 11 50 .int := ⟨RX12, TX12, _, rfl, iw_X12, by decide, Wt_of (tk_6 _ (List.mem_of_getElem? (i := 229) rfl)) rfl, ⟨tyX12, tyX12_ok⟩, nmX12, rfl, rfl⟩
theorem fl_X12_163 : FlG RX12 163 11 50 := flp_X12_163.g
theorem flp_X12_166 : FlP RX12 166 11 51 .int := ⟨RX12, TX12, _, rfl, iw_X12, by decide, Wt_of (tk_6 _ (List.mem_of_getElem? (i := 230) rfl)) rfl, ⟨tyX12, tyX12_ok⟩, nmX12, rfl, rfl⟩
theorem fl_X12_166 : FlG RX12 166 11 51 := flp_X12_166.g
theorem flp_X12_169 : FlP RX12 169 11 52 .int := ⟨RX12, TX12, _, rfl, iw_X12, by decide, Wt_of (tk_6 _ (List.mem_of_getElem? (i := 231) rfl)) rfl, ⟨tyX12, tyX12_ok⟩, nmX12, rfl, rfl⟩
theorem fl_X12_169 : FlG RX12 169 11 52 := flp_X12_169.g
theorem flp_X12_172 : FlP RX12 172 11 53 .int := ⟨RX12, TX12, _, rfl, iw_X12, by decide, Wt_of (tk_6 _ (List.mem_of_getElem? (i := 232) rfl)) rfl, ⟨tyX12, tyX12_ok⟩, nmX12, rfl, rfl⟩
theorem fl_X12_172 : FlG RX12 172 11 53 := flp_X12_172.g
theorem flp_X12_175 : FlP RX12 175 11 54 .float := ⟨RX12, TX12, _, rfl, iw_X12, by decide, Wt_of (tk_6 _ (List.mem_of_getElem? (i := 233) rfl)) rfl, ⟨tyX12, tyX12_ok⟩, nmX12, rfl, rfl⟩
theorem fl_X12_175 : FlG RX12 175 11 54 := flp_X12_175.g
theorem fl_X12_179 : FlG RX12 179 11 55 := ⟨RX12, TX12, _, rfl, iw_X12, by decide, Wt_of (tk_6 _ (List.mem_of_getElem? (i := 234) rfl)) rfl⟩
theorem flp_X12_182 : FlP RX12 182 11 56 .int := ⟨RX12, TX12, _, rfl, iw_X12, by decide, Wt_of (tk_6 _ (List.mem_of_getElem? (i := 235) rfl)) rfl, ⟨tyX12, tyX12_ok⟩, nmX12, rfl, rfl⟩
theorem fl_X12_182 : FlG RX12 182 11 56 := flp_X12_182.g
theorem flp_X12_185 : FlP RX12 185 11 57 .int := ⟨RX12, TX12, _, rfl, iw_X12, by decide, Wt_of (tk_6 _ (List.mem_of_getElem? (i := 236) rfl)) rfl, ⟨tyX12, tyX12_ok⟩, nmX12, rfl, rfl⟩
theorem fl_X12_185 : FlG RX12 185 11 57 := flp_X12_185.g
theorem flp_X12_188 : FlP RX12 188 11 58 .int := ⟨RX12, TX12, _, rfl, iw_X12, by decide, Wt_of (tk_6 _ (List.mem_of_getElem? (i := 237) rfl)) rfl, ⟨tyX12, tyX12_ok⟩, nmX12, rfl, rfl⟩
theorem fl_X12_188 : FlG RX12 188 11 58 := flp_X12_188.g
theorem fl_X12_191 : FlG RX12 191 11 59 := ⟨RX12, TX12, _, rfl, iw_X12, by decide, Wt_of (tk_6 _ (List.mem_of_getElem? (i := 238) rfl)) rfl⟩
theorem fl_X12_194 : FlG RX12 194 11 60 := ⟨RX12, TX12, _, rfl, iw_X12, by decide, Wt_of (tk_6 _ (List.mem_of_getElem? (i := 239) rfl)) rfl⟩
theorem fl_X12_197 : FlG RX12 197 11 61 := ⟨RX12, TX12, _, rfl, iw_X12, by decide, Wt_of (tk_7 _ (List.mem_of_getElem? (i := 0) rfl)) rfl⟩
theorem flp_X12_200 : FlP RX12 200 11 62 .int := ⟨RX12, TX12, _, rfl, iw_X12, by decide, Wt_of (tk_7 _ (List.mem_of_getElem? (i := 1) rfl)) rfl, ⟨tyX12, tyX12_ok⟩, nmX12, rfl, rfl⟩
theorem fl_X12_200 : FlG RX12 200 11 62 := flp_X12_200.g
theorem fl_X12_203 : FlG RX12 203 11 63 := ⟨RX12, TX12, _, rfl, iw_X12, by decide, Wt_of (tk_7 _ (List.mem_of_getElem? (i := 2) rfl)) rfl⟩
theorem flp_X12_206 : FlP RX12 206 11 64 .int := ⟨RX12, TX12, _, rfl, iw_X12, by decide, Wt_of (tk_7 _ (List.mem_of_getElem? (i := 3) rfl)) rfl, ⟨tyX12, tyX12_ok⟩, nmX12, rfl, rfl⟩
theorem fl_X12_206 : FlG RX12 206 11 64 := flp_X12_206.g
abbrev mi_J6_bitCount_0f7a4 : Mi := (RJ6, cJ6_bitCount_0f7a4, 1, rm 0, (some .int))
abbrev mi_J6_numberOfTrailingZeros_0f7a4 : Mi := (RJ6, cJ6_numberOfTrailingZeros_0f7a4, 2, rm 0, (some .int))
abbrev mi_Jxe99ae_doubleToLongBits_ccdee : Mi := (RJxe99ae, cJxe99ae_doubleToLongBits_ccdee, 2, rm 1, (some .long))
abbrev mi_Jxe99ae_isNaN_b9ae7 : Mi := (RJxe99ae, cJxe99ae_isNaN_b9ae7, 2, rm 0, (some .boolean))
abbrev mi_Jxf58ca_floatToIntBits_5c35a : Mi := (RJxf58ca, cJxf58ca_floatToIntBits_5c35a, 1, rm 1, (some .int))
abbrev mi_Jxf58ca_isNaN_12338 : Mi := (RJxf58ca, cJxf58ca_isNaN_12338, 1, rm 0, (some .boolean))
abbrev mi_X0_hasReached : Mi := (RX0, cX0_hasReached, 2, rm 0, (some .boolean))
abbrev mi_X0_start : Mi := (RX0, cX0_start, 2, rm 0, none)
abbrev mi_X0_step : Mi := (RX0, cX0_step, 4, rm 1, none)
abbrev mi_X10_isOwn : Mi := (RX10, cX10_isOwn, 4, rm 4, (some .boolean))
abbrev mi_X10_letterOf : Mi := (RX10, cX10_letterOf, 2, rm 0, (some .int))
abbrev mi_X10_of : Mi := (RX10, cX10_of, 3, rm 4, (some .int))
abbrev mi_X10_withLetter : Mi := (RX10, cX10_withLetter, 3, rm 0, (some .int))
abbrev mi_X11_beginAct : Mi := (RX11, cX11_beginAct, 1, rm 3, none)
abbrev mi_X11_best : Mi := (RX11, cX11_best, 3, rm 6, (some .int))
abbrev mi_X11_bestNode : Mi := (RX11, cX11_bestNode, 3, rm 6, (some .int))
abbrev mi_X11_carry : Mi := (RX11, cX11_carry, 5, rm 6, (some .int))
abbrev mi_X11_chance : Mi := (RX11, cX11_chance, 3, rm 4, (some .int))
abbrev mi_X11_changeByChance : Mi := (RX11, cX11_changeByChance, 2, rm 2, none)
abbrev mi_X11_couple : Mi := (RX11, cX11_couple, 2, rm 6, (some .int))
abbrev mi_X11_cover : Mi := (RX11, cX11_cover, 2, rm 6, (some .int))
abbrev mi_X11_covered : Mi := (RX11, cX11_covered, 2, rm 6, (some .int))
abbrev mi_X11_craft : Mi := (RX11, cX11_craft, 3, rm 1, (some .int))
abbrev mi_X11_critical : Mi := (RX11, cX11_critical, 2, rm 6, (some .int))
abbrev mi_X11_cut : Mi := (RX11, cX11_cut, 2, rm 0, (some .int))
abbrev mi_X11_depth : Mi := (RX11, cX11_depth, 5, rm 6, (some .int))
abbrev mi_X11_desk : Mi := (RX11, cX11_desk, 2, rm 8, (some .int))
abbrev mi_X11_doubleBits : Mi := (RX11, cX11_doubleBits, 6, rm 0, (some .long))
abbrev mi_X11_draw : Mi := (RX11, cX11_draw, 2, rm 1, (some .int))
abbrev mi_X11_end : Mi := (RX11, cX11_end, 2, rm 1, (some .boolean))
abbrev mi_X11_even : Mi := (RX11, cX11_even, 3, rm 6, (some .int))
abbrev mi_X11_extreme : Mi := (RX11, cX11_extreme, 4, rm 6, (some .int))
abbrev mi_X11_fault : Mi := (RX11, cX11_fault, 2, rm 0, (some .int))
abbrev mi_X11_feed : Mi := (RX11, cX11_feed, 6, rm 1, (some .int))
abbrev mi_X11_fewest : Mi := (RX11, cX11_fewest, 3, rm 6, (some .int))
abbrev mi_X11_find : Mi := (RX11, cX11_find, 2, rm 4, (some .boolean))
abbrev mi_X11_firstColumnWith : Mi := (RX11, cX11_firstColumnWith, 4, rm 4, (some .int))
abbrev mi_X11_floatBits : Mi := (RX11, cX11_floatBits, 3, rm 0, (some .int))
abbrev mi_X11_gap : Mi := (RX11, cX11_gap, 5, rm 6, (some .int))
abbrev mi_X11_gaps : Mi := (RX11, cX11_gaps, 3, rm 6, (some .int))
abbrev mi_X11_greatest : Mi := (RX11, cX11_greatest, 3, rm 6, (some .int))
abbrev mi_X11_has : Mi := (RX11, cX11_has, 2, rm 1, (some .int))
abbrev mi_X11_holders : Mi := (RX11, cX11_holders, 4, rm 6, (some .int))
abbrev mi_X11_image : Mi := (RX11, cX11_image, 1, rm 2, (some .int))
abbrev mi_X11_inCycle : Mi := (RX11, cX11_inCycle, 2, rm 1, (some .int))
abbrev mi_X11_isTick : Mi := (RX11, cX11_isTick, 2, rm 1, (some .boolean))
abbrev mi_X11_letter : Mi := (RX11, cX11_letter, 4, rm 1, (some .int))
abbrev mi_X11_look : Mi := (RX11, cX11_look, 1, rm 5, none)
abbrev mi_X11_lose : Mi := (RX11, cX11_lose, 2, rm 4, (some .boolean))
abbrev mi_X11_mean : Mi := (RX11, cX11_mean, 4, rm 6, (some .long))
abbrev mi_X11_meets : Mi := (RX11, cX11_meets, 3, rm 6, (some .int))
abbrev mi_X11_never : Mi := (RX11, cX11_never, 1, rm 6, (some .int))
abbrev mi_X11_next : Mi := (RX11, cX11_next, 4, rm 6, (some .int))
abbrev mi_X11_node : Mi := (RX11, cX11_node, 3, rm 4, (some .boolean))
abbrev mi_X11_note : Mi := (RX11, cX11_note, 2, rm 2, (some .int))
abbrev mi_X11_octet : Mi := (RX11, cX11_octet, 2, rm 0, (some .int))
abbrev mi_X11_on : Mi := (RX11, cX11_on, 2, rm 3, (some .boolean))
abbrev mi_X11_pass : Mi := (RX11, cX11_pass, 6, rm 6, (some .int))
abbrev mi_X11_passKinds : Mi := (RX11, cX11_passKinds, 2, rm 0, (some .int))
abbrev mi_X11_passes : Mi := (RX11, cX11_passes, 4, rm 6, (some .int))
abbrev mi_X11_passesInHours : Mi := (RX11, cX11_passesInHours, 8, rm 3, (some .int))
abbrev mi_X11_phase : Mi := (RX11, cX11_phase, 3, rm 4, (some .boolean))
abbrev mi_X11_placeOfBit : Mi := (RX11, cX11_placeOfBit, 4, rm 0, (some .int))
abbrev mi_X11_plane : Mi := (RX11, cX11_plane, 3, rm 1, (some .int))
abbrev mi_X11_reach : Mi := (RX11, cX11_reach, 3, rm 4, (some .boolean))
abbrev mi_X11_refuse : Mi := (RX11, cX11_refuse, 2, rm 0, (some .int))
abbrev mi_X11_refused : Mi := (RX11, cX11_refused, 2, rm 0, (some .boolean))
abbrev mi_X11_relief : Mi := (RX11, cX11_relief, 3, rm 6, (some .int))
abbrev mi_X11_rest : Mi := (RX11, cX11_rest, 3, rm 0, (some .int))
abbrev mi_X11_score : Mi := (RX11, cX11_score, 1, rm 6, (some .int))
abbrev mi_X11_seed : Mi := (RX11, cX11_seed, 2, rm 1, (some .boolean))
abbrev mi_X11_seen : Mi := (RX11, cX11_seen, 4, rm 6, (some .int))
abbrev mi_X11_sees : Mi := (RX11, cX11_sees, 5, rm 6, (some .int))
abbrev mi_X11_site : Mi := (RX11, cX11_site, 3, rm 6, (some .int))
abbrev mi_X11_sitesReached : Mi := (RX11, cX11_sitesReached, 5, rm 2, (some .int))
abbrev mi_X11_soon : Mi := (RX11, cX11_soon, 2, rm 6, (some .int))
abbrev mi_X11_source : Mi := (RX11, cX11_source, 8, rm 6, (some .int))
abbrev mi_X11_spot : Mi := (RX11, cX11_spot, 4, rm 6, (some .int))
abbrev mi_X11_spread : Mi := (RX11, cX11_spread, 4, rm 4, (some .int))
abbrev mi_X11_status : Mi := (RX11, cX11_status, 2, rm 0, (some .int))
abbrev mi_X11_suspect : Mi := (RX11, cX11_suspect, 3, rm 6, (some .int))
abbrev mi_X11_tells : Mi := (RX11, cX11_tells, 3, rm 6, (some .int))
abbrev mi_X11_undo : Mi := (RX11, cX11_undo, 1, rm 3, (some .boolean))
abbrev mi_X11_width : Mi := (RX11, cX11_width, 2, rm 0, (some .int))
abbrev mi_X11_worst : Mi := (RX11, cX11_worst, 4, rm 6, (some .int))
abbrev mi_X12_away : Mi := (RX12, cX12_away, 2, rm 0, (some .int))
abbrev mi_X12_begins : Mi := (RX12, cX12_begins, 2, rm 0, none)
abbrev mi_X12_best : Mi := (RX12, cX12_best, 7, rm 5, (some .int))
abbrev mi_X12_bestNode : Mi := (RX12, cX12_bestNode, 7, rm 5, (some .int))
abbrev mi_X12_byteAt : Mi := (RX12, cX12_byteAt, 2, rm 0, (some .int))
abbrev mi_X12_carries : Mi := (RX12, cX12_carries, 4, rm 5, none)
abbrev mi_X12_carry : Mi := (RX12, cX12_carry, 5, rm 6, (some .int))
abbrev mi_X12_chance : Mi := (RX12, cX12_chance, 5, rm 1, (some .int))
abbrev mi_X12_columnAt : Mi := (RX12, cX12_columnAt, 5, rm 2, (some .int))
abbrev mi_X12_common : Mi := (RX12, cX12_common, 5, rm 0, (some .int))
abbrev mi_X12_couple : Mi := (RX12, cX12_couple, 8, rm 5, (some .int))
abbrev mi_X12_cover : Mi := (RX12, cX12_cover, 2, rm 5, (some .int))
abbrev mi_X12_coverBy : Mi := (RX12, cX12_coverBy, 7, rm 2, (some .float))
abbrev mi_X12_covered : Mi := (RX12, cX12_covered, 2, rm 5, (some .int))
abbrev mi_X12_coveredBy : Mi := (RX12, cX12_coveredBy, 5, rm 1, (some .int))
abbrev mi_X12_craft : Mi := (RX12, cX12_craft, 3, rm 2, (some .int))
abbrev mi_X12_critical : Mi := (RX12, cX12_critical, 8, rm 5, (some .int))
abbrev mi_X12_depth : Mi := (RX12, cX12_depth, 9, rm 5, (some .int))
abbrev mi_X12_desk : Mi := (RX12, cX12_desk, 3, rm 7, (some .int))
abbrev mi_X12_doesSee : Mi := (RX12, cX12_doesSee, 5, rm 3, (some .boolean))
abbrev mi_X12_draw : Mi := (RX12, cX12_draw, 2, rm 0, (some .int))
abbrev mi_X12_end : Mi := (RX12, cX12_end, 2, rm 1, (some .boolean))
abbrev mi_X12_endsWell : Mi := (RX12, cX12_endsWell, 1, rm 2, none)
abbrev mi_X12_even : Mi := (RX12, cX12_even, 8, rm 5, (some .int))
abbrev mi_X12_extreme : Mi := (RX12, cX12_extreme, 7, rm 5, (some .int))
abbrev mi_X12_fails : Mi := (RX12, cX12_fails, 3, rm 0, none)
abbrev mi_X12_fault : Mi := (RX12, cX12_fault, 2, rm 0, (some .int))
abbrev mi_X12_feed : Mi := (RX12, cX12_feed, 6, rm 1, (some .int))
abbrev mi_X12_fewest : Mi := (RX12, cX12_fewest, 6, rm 5, (some .int))
abbrev mi_X12_find : Mi := (RX12, cX12_find, 2, rm 2, (some .boolean))
abbrev mi_X12_findsPass : Mi := (RX12, cX12_findsPass, 8, rm 2, (some .boolean))
abbrev mi_X12_freshName : Mi := (RX12, cX12_freshName, 4, rm 4, none)
abbrev mi_X12_gap : Mi := (RX12, cX12_gap, 5, rm 6, (some .int))
abbrev mi_X12_gaps : Mi := (RX12, cX12_gaps, 3, rm 5, (some .int))
abbrev mi_X12_goes : Mi := (RX12, cX12_goes, 1, rm 0, (some .boolean))
abbrev mi_X12_gone : Mi := (RX12, cX12_gone, 3, rm 1, (some .int))
abbrev mi_X12_greater : Mi := (RX12, cX12_greater, 2, rm 0, (some .int))
abbrev mi_X12_greatest : Mi := (RX12, cX12_greatest, 3, rm 5, (some .int))
abbrev mi_X12_greatestOf : Mi := (RX12, cX12_greatestOf, 5, rm 2, (some .int))
abbrev mi_X12_has : Mi := (RX12, cX12_has, 2, rm 1, (some .int))
abbrev mi_X12_here : Mi := (RX12, cX12_here, 1, rm 1, (some .int))
abbrev mi_X12_holders : Mi := (RX12, cX12_holders, 4, rm 7, (some .int))
abbrev mi_X12_holdersOf : Mi := (RX12, cX12_holdersOf, 5, rm 6, (some .int))
abbrev mi_X12_image : Mi := (RX12, cX12_image, 3, rm 1, (some .int))
abbrev mi_X12_isAbove : Mi := (RX12, cX12_isAbove, 4, rm 4, (some .boolean))
abbrev mi_X12_isBy : Mi := (RX12, cX12_isBy, 4, rm 0, (some .boolean))
abbrev mi_X12_isCell : Mi := (RX12, cX12_isCell, 3, rm 1, (some .boolean))
abbrev mi_X12_isCraft : Mi := (RX12, cX12_isCraft, 2, rm 1, (some .boolean))
abbrev mi_X12_isDigit : Mi := (RX12, cX12_isDigit, 2, rm 1, (some .boolean))
abbrev mi_X12_isImage : Mi := (RX12, cX12_isImage, 7, rm 1, (some .boolean))
abbrev mi_X12_isIn : Mi := (RX12, cX12_isIn, 3, rm 0, (some .boolean))
abbrev mi_X12_isName : Mi := (RX12, cX12_isName, 4, rm 0, (some .boolean))
abbrev mi_X12_isPlane : Mi := (RX12, cX12_isPlane, 2, rm 1, (some .boolean))
abbrev mi_X12_isRefused : Mi := (RX12, cX12_isRefused, 2, rm 0, (some .boolean))
abbrev mi_X12_isSite : Mi := (RX12, cX12_isSite, 2, rm 1, (some .boolean))
abbrev mi_X12_isSmall : Mi := (RX12, cX12_isSmall, 2, rm 1, (some .boolean))
abbrev mi_X12_isSuspect : Mi := (RX12, cX12_isSuspect, 4, rm 2, (some .boolean))
abbrev mi_X12_isTick : Mi := (RX12, cX12_isTick, 1, rm 1, (some .boolean))
abbrev mi_X12_isWithin : Mi := (RX12, cX12_isWithin, 4, rm 3, (some .boolean))
abbrev mi_X12_lays : Mi := (RX12, cX12_lays, 3, rm 0, none)
abbrev mi_X12_laysOne : Mi := (RX12, cX12_laysOne, 8, rm 3, none)
abbrev mi_X12_laysPlane : Mi := (RX12, cX12_laysPlane, 3, rm 4, none)
abbrev mi_X12_laysSets : Mi := (RX12, cX12_laysSets, 2, rm 4, none)
abbrev mi_X12_laysStretches : Mi := (RX12, cX12_laysStretches, 7, rm 1, none)
abbrev mi_X12_letter : Mi := (RX12, cX12_letter, 6, rm 1, (some .int))
abbrev mi_X12_lose : Mi := (RX12, cX12_lose, 2, rm 2, (some .boolean))
abbrev mi_X12_manyIn : Mi := (RX12, cX12_manyIn, 3, rm 0, (some .int))
abbrev mi_X12_mean : Mi := (RX12, cX12_mean, 5, rm 6, (some .long))
abbrev mi_X12_meets : Mi := (RX12, cX12_meets, 5, rm 3, (some .int))
abbrev mi_X12_must : Mi := (RX12, cX12_must, 2, rm 3, none)
abbrev mi_X12_name : Mi := (RX12, cX12_name, 1, rm 3, none)
abbrev mi_X12_nameIn : Mi := (RX12, cX12_nameIn, 4, rm 1, (some .int))
abbrev mi_X12_never : Mi := (RX12, cX12_never, 3, rm 5, (some .int))
abbrev mi_X12_next : Mi := (RX12, cX12_next, 4, rm 5, (some .int))
abbrev mi_X12_nextOf : Mi := (RX12, cX12_nextOf, 5, rm 1, (some .int))
abbrev mi_X12_node : Mi := (RX12, cX12_node, 3, rm 2, (some .boolean))
abbrev mi_X12_note : Mi := (RX12, cX12_note, 4, rm 2, (some .int))
abbrev mi_X12_number : Mi := (RX12, cX12_number, 4, rm 2, (some .int))
abbrev mi_X12_octet : Mi := (RX12, cX12_octet, 2, rm 1, (some .int))
abbrev mi_X12_on : Mi := (RX12, cX12_on, 3, rm 2, (some .boolean))
abbrev mi_X12_own : Mi := (RX12, cX12_own, 4, rm 0, (some .int))
abbrev mi_X12_pass : Mi := (RX12, cX12_pass, 9, rm 6, (some .int))
abbrev mi_X12_passes : Mi := (RX12, cX12_passes, 6, rm 5, (some .int))
abbrev mi_X12_phase : Mi := (RX12, cX12_phase, 3, rm 2, (some .boolean))
abbrev mi_X12_plane : Mi := (RX12, cX12_plane, 5, rm 2, (some .int))
abbrev mi_X12_reach : Mi := (RX12, cX12_reach, 3, rm 2, (some .boolean))
abbrev mi_X12_reaches : Mi := (RX12, cX12_reaches, 9, rm 2, (some .boolean))
abbrev mi_X12_readCycle : Mi := (RX12, cX12_readCycle, 3, rm 1, (some .int))
abbrev mi_X12_readsAll : Mi := (RX12, cX12_readsAll, 3, rm 6, (some .int))
abbrev mi_X12_readsCraft : Mi := (RX12, cX12_readsCraft, 2, rm 5, none)
abbrev mi_X12_readsPlane : Mi := (RX12, cX12_readsPlane, 1, rm 5, none)
abbrev mi_X12_readsSite : Mi := (RX12, cX12_readsSite, 2, rm 5, none)
abbrev mi_X12_refuses : Mi := (RX12, cX12_refuses, 2, rm 0, (some .int))
abbrev mi_X12_relief : Mi := (RX12, cX12_relief, 9, rm 5, (some .int))
abbrev mi_X12_remembers : Mi := (RX12, cX12_remembers, 2, rm 0, none)
abbrev mi_X12_rowAt : Mi := (RX12, cX12_rowAt, 7, rm 2, (some .int))
abbrev mi_X12_says : Mi := (RX12, cX12_says, 2, rm 0, none)
abbrev mi_X12_score : Mi := (RX12, cX12_score, 1, rm 5, (some .int))
abbrev mi_X12_scoreBy : Mi := (RX12, cX12_scoreBy, 4, rm 3, (some .float))
abbrev mi_X12_seed : Mi := (RX12, cX12_seed, 2, rm 1, (some .boolean))
abbrev mi_X12_seen : Mi := (RX12, cX12_seen, 6, rm 4, (some .int))
abbrev mi_X12_sees : Mi := (RX12, cX12_sees, 5, rm 4, (some .int))
abbrev mi_X12_site : Mi := (RX12, cX12_site, 9, rm 5, (some .int))
abbrev mi_X12_soon : Mi := (RX12, cX12_soon, 5, rm 5, (some .int))
abbrev mi_X12_source : Mi := (RX12, cX12_source, 8, rm 7, (some .int))
abbrev mi_X12_spot : Mi := (RX12, cX12_spot, 4, rm 3, (some .int))
abbrev mi_X12_spread : Mi := (RX12, cX12_spread, 3, rm 2, (some .int))
abbrev mi_X12_spreads : Mi := (RX12, cX12_spreads, 6, rm 1, none)
abbrev mi_X12_status : Mi := (RX12, cX12_status, 2, rm 1, (some .int))
abbrev mi_X12_suspect : Mi := (RX12, cX12_suspect, 4, rm 5, (some .int))
abbrev mi_X12_taken : Mi := (RX12, cX12_taken, 2, rm 0, (some .int))
abbrev mi_X12_tells : Mi := (RX12, cX12_tells, 10, rm 5, (some .int))
abbrev mi_X12_tellsAll : Mi := (RX12, cX12_tellsAll, 2, rm 2, none)
abbrev mi_X12_told : Mi := (RX12, cX12_told, 4, rm 4, (some .int))
abbrev mi_X12_turnOf : Mi := (RX12, cX12_turnOf, 2, rm 0, (some .int))
abbrev mi_X12_undo : Mi := (RX12, cX12_undo, 2, rm 1, (some .boolean))
abbrev mi_X12_upMany : Mi := (RX12, cX12_upMany, 4, rm 0, (some .int))
abbrev mi_X12_upSet : Mi := (RX12, cX12_upSet, 3, rm 0, (some .int))
abbrev mi_X12_width : Mi := (RX12, cX12_width, 2, rm 2, (some .int))
abbrev mi_X12_widthOf : Mi := (RX12, cX12_widthOf, 2, rm 1, (some .int))
abbrev mi_X12_without : Mi := (RX12, cX12_without, 2, rm 1, (some .int))
abbrev mi_X12_word : Mi := (RX12, cX12_word, 1, rm 2, none)
abbrev mi_X12_worst : Mi := (RX12, cX12_worst, 6, rm 5, (some .int))
abbrev mi_X12_worstBy : Mi := (RX12, cX12_worstBy, 4, rm 3, (some .int))
abbrev mi_X1_checkOf : Mi := (RX1, cX1_checkOf, 4, rm 1, (some .int))
abbrev mi_X1_checkWith : Mi := (RX1, cX1_checkWith, 2, rm 0, (some .int))
abbrev mi_X1_clear : Mi := (RX1, cX1_clear, 1, rm 0, none)
abbrev mi_X1_isUp : Mi := (RX1, cX1_isUp, 2, rm 0, (some .boolean))
abbrev mi_X1_readCraftImage : Mi := (RX1, cX1_readCraftImage, 6, rm 1, (some .boolean))
abbrev mi_X1_readImage : Mi := (RX1, cX1_readImage, 5, rm 2, (some .boolean))
abbrev mi_X1_spreadOut : Mi := (RX1, cX1_spreadOut, 9, rm 1, none)
abbrev mi_X1_take : Mi := (RX1, cX1_take, 2, rm 1, none)
abbrev mi_X1_turnOver : Mi := (RX1, cX1_turnOver, 2, rm 0, none)
abbrev mi_X1_write : Mi := (RX1, cX1_write, 6, rm 1, (some .int))
abbrev mi_X2_forget : Mi := (RX2, cX2_forget, 1, rm 0, none)
abbrev mi_X2_keep : Mi := (RX2, cX2_keep, 2, rm 2, none)
abbrev mi_X2_restore : Mi := (RX2, cX2_restore, 2, rm 2, none)
abbrev mi_X3_allSo : Mi := (RX3, cX3_allSo, 4, rm 1, (some .boolean))
abbrev mi_X3_findTelling : Mi := (RX3, cX3_findTelling, 6, rm 2, none)
abbrev mi_X3_forget : Mi := (RX3, cX3_forget, 1, rm 0, none)
abbrev mi_X3_mostAlike : Mi := (RX3, cX3_mostAlike, 6, rm 1, (some .int))
abbrev mi_X3_suspects : Mi := (RX3, cX3_suspects, 5, rm 2, (some .int))
abbrev mi_X3_take : Mi := (RX3, cX3_take, 5, rm 1, (some .boolean))
abbrev mi_X4_clear : Mi := (RX4, cX4_clear, 1, rm 0, none)
abbrev mi_X4_craftIn : Mi := (RX4, cX4_craftIn, 4, rm 0, (some .int))
abbrev mi_X4_findCycle : Mi := (RX4, cX4_findCycle, 2, rm 2, (some .boolean))
abbrev mi_X4_hasCell : Mi := (RX4, cX4_hasCell, 3, rm 0, (some .boolean))
abbrev mi_X4_hasCraft : Mi := (RX4, cX4_hasCraft, 2, rm 0, (some .boolean))
abbrev mi_X4_hasName : Mi := (RX4, cX4_hasName, 2, rm 2, (some .boolean))
abbrev mi_X4_hasPlane : Mi := (RX4, cX4_hasPlane, 2, rm 0, (some .boolean))
abbrev mi_X4_hasSite : Mi := (RX4, cX4_hasSite, 2, rm 0, (some .boolean))
abbrev mi_X4_leastCommon : Mi := (RX4, cX4_leastCommon, 3, rm 1, (some .int))
abbrev mi_X4_placeOf : Mi := (RX4, cX4_placeOf, 4, rm 0, (some .int))
abbrev mi_X4_planeNamed : Mi := (RX4, cX4_planeNamed, 2, rm 1, (some .int))
abbrev mi_X4_stands : Mi := (RX4, cX4_stands, 1, rm 0, (some .boolean))
abbrev mi_X4_take : Mi := (RX4, cX4_take, 2, rm 1, none)
abbrev mi_X4_turnOf : Mi := (RX4, cX4_turnOf, 2, rm 0, (some .int))
abbrev mi_X4_weighCells : Mi := (RX4, cX4_weighCells, 2, rm 1, none)
abbrev mi_X5_endStatement : Mi := (RX5, cX5_endStatement, 1, rm 2, (some .boolean))
abbrev mi_X5_fail : Mi := (RX5, cX5_fail, 3, rm 0, (some .boolean))
abbrev mi_X5_findPlane : Mi := (RX5, cX5_findPlane, 1, rm 2, (some .boolean))
abbrev mi_X5_isBlank : Mi := (RX5, cX5_isBlank, 1, rm 0, (some .boolean))
abbrev mi_X5_isDigit : Mi := (RX5, cX5_isDigit, 1, rm 0, (some .boolean))
abbrev mi_X5_isLetter : Mi := (RX5, cX5_isLetter, 1, rm 0, (some .boolean))
abbrev mi_X5_isNew : Mi := (RX5, cX5_isNew, 1, rm 3, (some .boolean))
abbrev mi_X5_read : Mi := (RX5, cX5_read, 3, rm 7, (some .boolean))
abbrev mi_X5_readCraft : Mi := (RX5, cX5_readCraft, 2, rm 6, (some .boolean))
abbrev mi_X5_readGrid : Mi := (RX5, cX5_readGrid, 1, rm 6, (some .boolean))
abbrev mi_X5_readPlane : Mi := (RX5, cX5_readPlane, 2, rm 6, (some .boolean))
abbrev mi_X5_readSite : Mi := (RX5, cX5_readSite, 2, rm 6, (some .boolean))
abbrev mi_X5_skipBlanks : Mi := (RX5, cX5_skipBlanks, 1, rm 1, none)
abbrev mi_X5_takeLetters : Mi := (RX5, cX5_takeLetters, 1, rm 2, (some .boolean))
abbrev mi_X5_takeName : Mi := (RX5, cX5_takeName, 1, rm 5, (some .boolean))
abbrev mi_X5_takeNumber : Mi := (RX5, cX5_takeNumber, 3, rm 2, (some .boolean))
abbrev mi_X5_takeWord : Mi := (RX5, cX5_takeWord, 2, rm 5, (some .boolean))
abbrev mi_X6_addViews : Mi := (RX6, cX6_addViews, 8, rm 0, none)
abbrev mi_X6_adopt : Mi := (RX6, cX6_adopt, 2, rm 0, none)
abbrev mi_X6_arcOf : Mi := (RX6, cX6_arcOf, 10, rm 1, (some .int))
abbrev mi_X6_columnOf : Mi := (RX6, cX6_columnOf, 3, rm 0, (some .int))
abbrev mi_X6_countMeetings : Mi := (RX6, cX6_countMeetings, 5, rm 1, (some .int))
abbrev mi_X6_countNever : Mi := (RX6, cX6_countNever, 5, rm 1, (some .int))
abbrev mi_X6_countSeen : Mi := (RX6, cX6_countSeen, 4, rm 1, (some .int))
abbrev mi_X6_countSeenBy : Mi := (RX6, cX6_countSeenBy, 7, rm 1, (some .int))
abbrev mi_X6_coverAt : Mi := (RX6, cX6_coverAt, 6, rm 1, (some .float))
abbrev mi_X6_draw : Mi := (RX6, cX6_draw, 7, rm 3, none)
abbrev mi_X6_drawAll : Mi := (RX6, cX6_drawAll, 3, rm 4, none)
abbrev mi_X6_extremeTick : Mi := (RX6, cX6_extremeTick, 6, rm 2, (some .int))
abbrev mi_X6_findLastSights : Mi := (RX6, cX6_findLastSights, 6, rm 1, (some .boolean))
abbrev mi_X6_firstRowWith : Mi := (RX6, cX6_firstRowWith, 3, rm 3, (some .int))
abbrev mi_X6_gapsFit : Mi := (RX6, cX6_gapsFit, 4, rm 3, (some .boolean))
abbrev mi_X6_hold : Mi := (RX6, cX6_hold, 4, rm 1, none)
abbrev mi_X6_join : Mi := (RX6, cX6_join, 3, rm 2, none)
abbrev mi_X6_joinRow : Mi := (RX6, cX6_joinRow, 3, rm 1, none)
abbrev mi_X6_makeArcs : Mi := (RX6, cX6_makeArcs, 4, rm 2, none)
abbrev mi_X6_meanCover : Mi := (RX6, cX6_meanCover, 4, rm 2, (some .float))
abbrev mi_X6_paint : Mi := (RX6, cX6_paint, 9, rm 1, none)
abbrev mi_X6_place : Mi := (RX6, cX6_place, 13, rm 1, none)
abbrev mi_X6_rowOf : Mi := (RX6, cX6_rowOf, 3, rm 0, (some .int))
abbrev mi_X6_ticksUntilAll : Mi := (RX6, cX6_ticksUntilAll, 6, rm 1, (some .int))
abbrev mi_X6_whoSees : Mi := (RX6, cX6_whoSees, 8, rm 0, (some .int))
abbrev mi_X6_worstGap : Mi := (RX6, cX6_worstGap, 3, rm 3, (some .int))
abbrev mi_X6_worstOfRow : Mi := (RX6, cX6_worstOfRow, 10, rm 2, (some .int))
abbrev mi_X7_begins : Mi := (RX7, cX7_begins, 3, rm 2, (some .boolean))
abbrev mi_X7_countDouble : Mi := (RX7, cX7_countDouble, 3, rm 2, (some .int))
abbrev mi_X7_countRuns : Mi := (RX7, cX7_countRuns, 5, rm 3, (some .int))
abbrev mi_X7_deepestTick : Mi := (RX7, cX7_deepestTick, 3, rm 2, (some .int))
abbrev mi_X7_depthAt : Mi := (RX7, cX7_depthAt, 2, rm 1, (some .int))
abbrev mi_X7_findRun : Mi := (RX7, cX7_findRun, 6, rm 3, (some .boolean))
abbrev mi_X7_isOf : Mi := (RX7, cX7_isOf, 3, rm 0, (some .boolean))
abbrev mi_X7_lay : Mi := (RX7, cX7_lay, 6, rm 1, none)
abbrev mi_X7_lengthFrom : Mi := (RX7, cX7_lengthFrom, 4, rm 1, (some .int))
abbrev mi_X7_longestGap : Mi := (RX7, cX7_longestGap, 3, rm 3, (some .int))
abbrev mi_X7_ticksUntilSeen : Mi := (RX7, cX7_ticksUntilSeen, 3, rm 1, (some .int))
abbrev mi_X7_unseenTicks : Mi := (RX7, cX7_unseenTicks, 3, rm 1, (some .int))
abbrev mi_X8_add : Mi := (RX8, cX8_add, 3, rm 0, none)
abbrev mi_X8_byteAt : Mi := (RX8, cX8_byteAt, 2, rm 0, (some .int))
abbrev mi_X8_cutTo : Mi := (RX8, cX8_cutTo, 2, rm 0, none)
abbrev mi_X8_size : Mi := (RX8, cX8_size, 1, rm 0, (some .int))
abbrev mi_X9_start : Mi := (RX9, cX9_start, 1, rm 2, none)
abbrev mi_X9_takeGreaterGap : Mi := (RX9, cX9_takeGreaterGap, 4, rm 4, none)
abbrev mi_X9_takeHigherScore : Mi := (RX9, cX9_takeHigherScore, 3, rm 3, none)
abbrev mi_X9_takeLesserGap : Mi := (RX9, cX9_takeLesserGap, 4, rm 4, none)
abbrev mi_X9_tryCouples : Mi := (RX9, cX9_tryCouples, 4, rm 4, none)
abbrev mi_X9_tryFewest : Mi := (RX9, cX9_tryFewest, 5, rm 4, none)
abbrev mi_X9_tryLosses : Mi := (RX9, cX9_tryLosses, 2, rm 5, none)
abbrev mi_X9_tryNodes : Mi := (RX9, cX9_tryNodes, 4, rm 5, none)
abbrev mi_X9_tryPhases : Mi := (RX9, cX9_tryPhases, 4, rm 4, none)
abbrev mi_X9_tryReliefs : Mi := (RX9, cX9_tryReliefs, 4, rm 5, none)
abbrev mi_X9_trySpreads : Mi := (RX9, cX9_trySpreads, 4, rm 5, none)
theorem lb_X8_size : LkB yX8_size mi_X8_size 0 := ⟨Wt_of (tk_3 _ (List.mem_of_getElem? (i := 29) rfl)) rfl, Wt_of (tk_1 _ (List.mem_of_getElem? (i := 2) rfl)) rfl, by decide, by decide, by decide +kernel⟩
theorem lk_X11_118 : LkV RX11 118 yX8_size mi_X8_size 0 := ⟨lb_X8_size, Wt_of (tk_3 _ (List.mem_of_getElem? (i := 26) rfl)) rfl, Wt_of (tk_3 _ (List.mem_of_getElem? (i := 27) rfl)) rfl, Wt_of (tk_3 _ (List.mem_of_getElem? (i := 28) rfl)) rfl⟩
theorem lb_X11_refuse : LkB yX11_refuse mi_X11_refuse 1 := ⟨Wt_of (tk_3 _ (List.mem_of_getElem? (i := 33) rfl)) rfl, Wt_of (tk_1 _ (List.mem_of_getElem? (i := 1) rfl)) rfl, by decide, by decide, by decide +kernel⟩
theorem lk_X11_122 : LkV RX11 122 yX11_refuse mi_X11_refuse 1 := ⟨lb_X11_refuse, Wt_of (tk_3 _ (List.mem_of_getElem? (i := 30) rfl)) rfl, Wt_of (tk_3 _ (List.mem_of_getElem? (i := 32) rfl)) rfl, Wt_of (tk_0 _ (List.mem_of_getElem? (i := 0) rfl)) rfl⟩
theorem lb_X8_add : LkB yX8_add mi_X8_add 1 := ⟨Wt_of (tk_3 _ (List.mem_of_getElem? (i := 37) rfl)) rfl, Wt_of (tk_1 _ (List.mem_of_getElem? (i := 2) rfl)) rfl, by decide, by decide, by decide +kernel⟩
theorem lk_X11_126 : LkV RX11 126 yX8_add mi_X8_add 1 := ⟨lb_X8_add, Wt_of (tk_3 _ (List.mem_of_getElem? (i := 34) rfl)) rfl, Wt_of (tk_3 _ (List.mem_of_getElem? (i := 35) rfl)) rfl, Wt_of (tk_3 _ (List.mem_of_getElem? (i := 36) rfl)) rfl⟩
theorem lb_X11_refused : LkB yX11_refused mi_X11_refused 1 := ⟨Wt_of (tk_3 _ (List.mem_of_getElem? (i := 45) rfl)) rfl, Wt_of (tk_1 _ (List.mem_of_getElem? (i := 1) rfl)) rfl, by decide, by decide, by decide +kernel⟩
theorem lk_X11_130 : LkV RX11 130 yX11_refused mi_X11_refused 1 := ⟨lb_X11_refused, Wt_of (tk_3 _ (List.mem_of_getElem? (i := 42) rfl)) rfl, Wt_of (tk_3 _ (List.mem_of_getElem? (i := 44) rfl)) rfl, Wt_of (tk_0 _ (List.mem_of_getElem? (i := 1) rfl)) rfl⟩
theorem lb_X8_cutTo : LkB yX8_cutTo mi_X8_cutTo 1 := ⟨Wt_of (tk_3 _ (List.mem_of_getElem? (i := 49) rfl)) rfl, Wt_of (tk_1 _ (List.mem_of_getElem? (i := 2) rfl)) rfl, by decide, by decide, by decide +kernel⟩
theorem lk_X11_134 : LkV RX11 134 yX8_cutTo mi_X8_cutTo 1 := ⟨lb_X8_cutTo, Wt_of (tk_3 _ (List.mem_of_getElem? (i := 46) rfl)) rfl, Wt_of (tk_3 _ (List.mem_of_getElem? (i := 47) rfl)) rfl, Wt_of (tk_3 _ (List.mem_of_getElem? (i := 48) rfl)) rfl⟩
theorem lb_X5_read : LkB yX5_read mi_X5_read 0 := ⟨Wt_of (tk_3 _ (List.mem_of_getElem? (i := 57) rfl)) rfl, Wt_of (tk_1 _ (List.mem_of_getElem? (i := 5) rfl)) rfl, by decide, by decide, by decide +kernel⟩
theorem lk_X11_137 : LkV RX11 137 yX5_read mi_X5_read 0 := ⟨lb_X5_read, Wt_of (tk_3 _ (List.mem_of_getElem? (i := 54) rfl)) rfl, Wt_of (tk_3 _ (List.mem_of_getElem? (i := 55) rfl)) rfl, Wt_of (tk_3 _ (List.mem_of_getElem? (i := 56) rfl)) rfl⟩
theorem lb_X4_take : LkB yX4_take mi_X4_take 1 := ⟨Wt_of (tk_4 _ (List.mem_of_getElem? (i := 6) rfl)) rfl, Wt_of (tk_1 _ (List.mem_of_getElem? (i := 3) rfl)) rfl, by decide, by decide, by decide +kernel⟩
theorem lk_X11_147 : LkV RX11 147 yX4_take mi_X4_take 1 := ⟨lb_X4_take, Wt_of (tk_4 _ (List.mem_of_getElem? (i := 3) rfl)) rfl, Wt_of (tk_4 _ (List.mem_of_getElem? (i := 4) rfl)) rfl, Wt_of (tk_4 _ (List.mem_of_getElem? (i := 5) rfl)) rfl⟩
theorem lb_X1_take : LkB yX1_take mi_X1_take 1 := ⟨Wt_of (tk_4 _ (List.mem_of_getElem? (i := 13) rfl)) rfl, Wt_of (tk_1 _ (List.mem_of_getElem? (i := 4) rfl)) rfl, by decide, by decide, by decide +kernel⟩
theorem lk_X11_150 : LkV RX11 150 yX1_take mi_X1_take 1 := ⟨lb_X1_take, Wt_of (tk_4 _ (List.mem_of_getElem? (i := 10) rfl)) rfl, Wt_of (tk_4 _ (List.mem_of_getElem? (i := 11) rfl)) rfl, Wt_of (tk_4 _ (List.mem_of_getElem? (i := 12) rfl)) rfl⟩
theorem lb_X6_adopt : LkB yX6_adopt mi_X6_adopt 0 := ⟨Wt_of (tk_4 _ (List.mem_of_getElem? (i := 18) rfl)) rfl, Wt_of (tk_1 _ (List.mem_of_getElem? (i := 7) rfl)) rfl, by decide, by decide, by decide +kernel⟩
theorem lk_X11_153 : LkV RX11 153 yX6_adopt mi_X6_adopt 0 := ⟨lb_X6_adopt, Wt_of (tk_4 _ (List.mem_of_getElem? (i := 15) rfl)) rfl, Wt_of (tk_4 _ (List.mem_of_getElem? (i := 16) rfl)) rfl, Wt_of (tk_4 _ (List.mem_of_getElem? (i := 17) rfl)) rfl⟩
theorem lb_X2_forget : LkB yX2_forget mi_X2_forget 0 := ⟨Wt_of (tk_4 _ (List.mem_of_getElem? (i := 22) rfl)) rfl, Wt_of (tk_1 _ (List.mem_of_getElem? (i := 6) rfl)) rfl, by decide, by decide, by decide +kernel⟩
theorem lk_X11_156 : LkV RX11 156 yX2_forget mi_X2_forget 0 := ⟨lb_X2_forget, Wt_of (tk_4 _ (List.mem_of_getElem? (i := 19) rfl)) rfl, Wt_of (tk_4 _ (List.mem_of_getElem? (i := 20) rfl)) rfl, Wt_of (tk_4 _ (List.mem_of_getElem? (i := 21) rfl)) rfl⟩
theorem lb_X3_forget : LkB yX3_forget mi_X3_forget 0 := ⟨Wt_of (tk_4 _ (List.mem_of_getElem? (i := 26) rfl)) rfl, Wt_of (tk_1 _ (List.mem_of_getElem? (i := 11) rfl)) rfl, by decide, by decide, by decide +kernel⟩
theorem lk_X11_159 : LkV RX11 159 yX3_forget mi_X3_forget 0 := ⟨lb_X3_forget, Wt_of (tk_4 _ (List.mem_of_getElem? (i := 23) rfl)) rfl, Wt_of (tk_4 _ (List.mem_of_getElem? (i := 24) rfl)) rfl, Wt_of (tk_4 _ (List.mem_of_getElem? (i := 25) rfl)) rfl⟩
theorem lb_J6_bitCount_0f7a4 : LkB yJ6_bitCount_0f7a4 mi_J6_bitCount_0f7a4 1 := ⟨Wt_of (tk_4 _ (List.mem_of_getElem? (i := 38) rfl)) rfl, Wt_of (tk_1 _ (List.mem_of_getElem? (i := 20) rfl)) rfl, by decide, by decide, by decide +kernel⟩
theorem lk_X11_181 : LkS RX11 181 yJ6_bitCount_0f7a4 mi_J6_bitCount_0f7a4 1 := ⟨lb_J6_bitCount_0f7a4, Wt_of (tk_4 _ (List.mem_of_getElem? (i := 36) rfl)) rfl, Wt_of (tk_4 _ (List.mem_of_getElem? (i := 37) rfl)) rfl⟩
theorem lb_X4_hasPlane : LkB yX4_hasPlane mi_X4_hasPlane 1 := ⟨Wt_of (tk_4 _ (List.mem_of_getElem? (i := 49) rfl)) rfl, Wt_of (tk_1 _ (List.mem_of_getElem? (i := 3) rfl)) rfl, by decide, by decide, by decide +kernel⟩
theorem lk_X11_201 : LkV RX11 201 yX4_hasPlane mi_X4_hasPlane 1 := ⟨lb_X4_hasPlane, Wt_of (tk_4 _ (List.mem_of_getElem? (i := 46) rfl)) rfl, Wt_of (tk_4 _ (List.mem_of_getElem? (i := 47) rfl)) rfl, Wt_of (tk_4 _ (List.mem_of_getElem? (i := 48) rfl)) rfl⟩
theorem lb_X10_letterOf : LkB yX10_letterOf mi_X10_letterOf 2 := ⟨Wt_of (tk_4 _ (List.mem_of_getElem? (i := 52) rfl)) rfl, Wt_of (tk_1 _ (List.mem_of_getElem? (i := 13) rfl)) rfl, by decide, by decide, by decide +kernel⟩
theorem lk_X11_207 : LkS RX11 207 yX10_letterOf mi_X10_letterOf 2 := ⟨lb_X10_letterOf, Wt_of (tk_4 _ (List.mem_of_getElem? (i := 50) rfl)) rfl, Wt_of (tk_4 _ (List.mem_of_getElem? (i := 51) rfl)) rfl⟩
theorem lb_X4_hasCraft : LkB yX4_hasCraft mi_X4_hasCraft 1 := ⟨Wt_of (tk_4 _ (List.mem_of_getElem? (i := 56) rfl)) rfl, Wt_of (tk_1 _ (List.mem_of_getElem? (i := 3) rfl)) rfl, by decide, by decide, by decide +kernel⟩
theorem lk_X11_211 : LkV RX11 211 yX4_hasCraft mi_X4_hasCraft 1 := ⟨lb_X4_hasCraft, Wt_of (tk_4 _ (List.mem_of_getElem? (i := 53) rfl)) rfl, Wt_of (tk_4 _ (List.mem_of_getElem? (i := 54) rfl)) rfl, Wt_of (tk_4 _ (List.mem_of_getElem? (i := 55) rfl)) rfl⟩
theorem lb_X4_hasSite : LkB yX4_hasSite mi_X4_hasSite 1 := ⟨Wt_of (tk_4 _ (List.mem_of_getElem? (i := 60) rfl)) rfl, Wt_of (tk_1 _ (List.mem_of_getElem? (i := 3) rfl)) rfl, by decide, by decide, by decide +kernel⟩
theorem lk_X11_217 : LkV RX11 217 yX4_hasSite mi_X4_hasSite 1 := ⟨lb_X4_hasSite, Wt_of (tk_4 _ (List.mem_of_getElem? (i := 57) rfl)) rfl, Wt_of (tk_4 _ (List.mem_of_getElem? (i := 58) rfl)) rfl, Wt_of (tk_4 _ (List.mem_of_getElem? (i := 59) rfl)) rfl⟩
theorem lb_X4_craftIn : LkB yX4_craftIn mi_X4_craftIn 1 := ⟨Wt_of (tk_4 _ (List.mem_of_getElem? (i := 68) rfl)) rfl, Wt_of (tk_1 _ (List.mem_of_getElem? (i := 3) rfl)) rfl, by decide, by decide, by decide +kernel⟩
theorem lk_X11_232 : LkV RX11 232 yX4_craftIn mi_X4_craftIn 1 := ⟨lb_X4_craftIn, Wt_of (tk_4 _ (List.mem_of_getElem? (i := 65) rfl)) rfl, Wt_of (tk_4 _ (List.mem_of_getElem? (i := 66) rfl)) rfl, Wt_of (tk_4 _ (List.mem_of_getElem? (i := 67) rfl)) rfl⟩
theorem lb_X1_isUp : LkB yX1_isUp mi_X1_isUp 1 := ⟨Wt_of (tk_4 _ (List.mem_of_getElem? (i := 76) rfl)) rfl, Wt_of (tk_1 _ (List.mem_of_getElem? (i := 4) rfl)) rfl, by decide, by decide, by decide +kernel⟩
theorem lk_X11_244 : LkV RX11 244 yX1_isUp mi_X1_isUp 1 := ⟨lb_X1_isUp, Wt_of (tk_4 _ (List.mem_of_getElem? (i := 73) rfl)) rfl, Wt_of (tk_4 _ (List.mem_of_getElem? (i := 74) rfl)) rfl, Wt_of (tk_4 _ (List.mem_of_getElem? (i := 75) rfl)) rfl⟩
theorem lb_X11_look : LkB yX11_look mi_X11_look 0 := ⟨Wt_of (tk_4 _ (List.mem_of_getElem? (i := 84) rfl)) rfl, Wt_of (tk_1 _ (List.mem_of_getElem? (i := 1) rfl)) rfl, by decide, by decide, by decide +kernel⟩
theorem lk_X11_247 : LkV RX11 247 yX11_look mi_X11_look 0 := ⟨lb_X11_look, Wt_of (tk_4 _ (List.mem_of_getElem? (i := 81) rfl)) rfl, Wt_of (tk_4 _ (List.mem_of_getElem? (i := 83) rfl)) rfl, Wt_of (tk_0 _ (List.mem_of_getElem? (i := 15) rfl)) rfl⟩
theorem lb_X11_passesInHours : LkB yX11_passesInHours mi_X11_passesInHours 2 := ⟨Wt_of (tk_4 _ (List.mem_of_getElem? (i := 137) rfl)) rfl, Wt_of (tk_1 _ (List.mem_of_getElem? (i := 1) rfl)) rfl, by decide, by decide, by decide +kernel⟩
theorem lk_X11_262 : LkV RX11 262 yX11_passesInHours mi_X11_passesInHours 2 := ⟨lb_X11_passesInHours, Wt_of (tk_4 _ (List.mem_of_getElem? (i := 134) rfl)) rfl, Wt_of (tk_4 _ (List.mem_of_getElem? (i := 136) rfl)) rfl, Wt_of (tk_0 _ (List.mem_of_getElem? (i := 22) rfl)) rfl⟩
theorem lb_X11_isTick : LkB yX11_isTick mi_X11_isTick 1 := ⟨Wt_of (tk_4 _ (List.mem_of_getElem? (i := 168) rfl)) rfl, Wt_of (tk_1 _ (List.mem_of_getElem? (i := 1) rfl)) rfl, by decide, by decide, by decide +kernel⟩
theorem lk_X11_266 : LkV RX11 266 yX11_isTick mi_X11_isTick 1 := ⟨lb_X11_isTick, Wt_of (tk_4 _ (List.mem_of_getElem? (i := 165) rfl)) rfl, Wt_of (tk_4 _ (List.mem_of_getElem? (i := 167) rfl)) rfl, Wt_of (tk_0 _ (List.mem_of_getElem? (i := 24) rfl)) rfl⟩
theorem lb_X11_inCycle : LkB yX11_inCycle mi_X11_inCycle 1 := ⟨Wt_of (tk_4 _ (List.mem_of_getElem? (i := 176) rfl)) rfl, Wt_of (tk_1 _ (List.mem_of_getElem? (i := 1) rfl)) rfl, by decide, by decide, by decide +kernel⟩
theorem lk_X11_269 : LkV RX11 269 yX11_inCycle mi_X11_inCycle 1 := ⟨lb_X11_inCycle, Wt_of (tk_4 _ (List.mem_of_getElem? (i := 173) rfl)) rfl, Wt_of (tk_4 _ (List.mem_of_getElem? (i := 175) rfl)) rfl, Wt_of (tk_0 _ (List.mem_of_getElem? (i := 25) rfl)) rfl⟩
theorem lb_X6_columnOf : LkB yX6_columnOf mi_X6_columnOf 2 := ⟨Wt_of (tk_4 _ (List.mem_of_getElem? (i := 180) rfl)) rfl, Wt_of (tk_1 _ (List.mem_of_getElem? (i := 7) rfl)) rfl, by decide, by decide, by decide +kernel⟩
theorem lk_X11_272 : LkV RX11 272 yX6_columnOf mi_X6_columnOf 2 := ⟨lb_X6_columnOf, Wt_of (tk_4 _ (List.mem_of_getElem? (i := 177) rfl)) rfl, Wt_of (tk_4 _ (List.mem_of_getElem? (i := 178) rfl)) rfl, Wt_of (tk_4 _ (List.mem_of_getElem? (i := 179) rfl)) rfl⟩
theorem lb_X6_rowOf : LkB yX6_rowOf mi_X6_rowOf 2 := ⟨Wt_of (tk_4 _ (List.mem_of_getElem? (i := 184) rfl)) rfl, Wt_of (tk_1 _ (List.mem_of_getElem? (i := 7) rfl)) rfl, by decide, by decide, by decide +kernel⟩
theorem lk_X11_275 : LkV RX11 275 yX6_rowOf mi_X6_rowOf 2 := ⟨lb_X6_rowOf, Wt_of (tk_4 _ (List.mem_of_getElem? (i := 181) rfl)) rfl, Wt_of (tk_4 _ (List.mem_of_getElem? (i := 182) rfl)) rfl, Wt_of (tk_4 _ (List.mem_of_getElem? (i := 183) rfl)) rfl⟩
theorem lb_X4_hasCell : LkB yX4_hasCell mi_X4_hasCell 2 := ⟨Wt_of (tk_4 _ (List.mem_of_getElem? (i := 192) rfl)) rfl, Wt_of (tk_1 _ (List.mem_of_getElem? (i := 3) rfl)) rfl, by decide, by decide, by decide +kernel⟩
theorem lk_X11_278 : LkV RX11 278 yX4_hasCell mi_X4_hasCell 2 := ⟨lb_X4_hasCell, Wt_of (tk_4 _ (List.mem_of_getElem? (i := 189) rfl)) rfl, Wt_of (tk_4 _ (List.mem_of_getElem? (i := 190) rfl)) rfl, Wt_of (tk_4 _ (List.mem_of_getElem? (i := 191) rfl)) rfl⟩
theorem lb_X6_whoSees : LkB yX6_whoSees mi_X6_whoSees 4 := ⟨Wt_of (tk_4 _ (List.mem_of_getElem? (i := 145) rfl)) rfl, Wt_of (tk_1 _ (List.mem_of_getElem? (i := 7) rfl)) rfl, by decide, by decide, by decide +kernel⟩
theorem lk_X11_282 : LkV RX11 282 yX6_whoSees mi_X6_whoSees 4 := ⟨lb_X6_whoSees, Wt_of (tk_4 _ (List.mem_of_getElem? (i := 193) rfl)) rfl, Wt_of (tk_4 _ (List.mem_of_getElem? (i := 143) rfl)) rfl, Wt_of (tk_4 _ (List.mem_of_getElem? (i := 144) rfl)) rfl⟩
theorem lb_X7_lay : LkB yX7_lay mi_X7_lay 3 := ⟨Wt_of (tk_4 _ (List.mem_of_getElem? (i := 141) rfl)) rfl, Wt_of (tk_1 _ (List.mem_of_getElem? (i := 8) rfl)) rfl, by decide, by decide, by decide +kernel⟩
theorem lk_X11_289 : LkV RX11 289 yX7_lay mi_X7_lay 3 := ⟨lb_X7_lay, Wt_of (tk_4 _ (List.mem_of_getElem? (i := 138) rfl)) rfl, Wt_of (tk_4 _ (List.mem_of_getElem? (i := 139) rfl)) rfl, Wt_of (tk_4 _ (List.mem_of_getElem? (i := 140) rfl)) rfl⟩
theorem lb_X11_passKinds : LkB yX11_passKinds mi_X11_passKinds 1 := ⟨Wt_of (tk_4 _ (List.mem_of_getElem? (i := 209) rfl)) rfl, Wt_of (tk_1 _ (List.mem_of_getElem? (i := 1) rfl)) rfl, by decide, by decide, by decide +kernel⟩
theorem lk_X11_293 : LkV RX11 293 yX11_passKinds mi_X11_passKinds 1 := ⟨lb_X11_passKinds, Wt_of (tk_4 _ (List.mem_of_getElem? (i := 206) rfl)) rfl, Wt_of (tk_4 _ (List.mem_of_getElem? (i := 208) rfl)) rfl, Wt_of (tk_0 _ (List.mem_of_getElem? (i := 26) rfl)) rfl⟩
theorem lb_X7_countRuns : LkB yX7_countRuns mi_X7_countRuns 1 := ⟨Wt_of (tk_4 _ (List.mem_of_getElem? (i := 213) rfl)) rfl, Wt_of (tk_1 _ (List.mem_of_getElem? (i := 8) rfl)) rfl, by decide, by decide, by decide +kernel⟩
theorem lk_X11_296 : LkV RX11 296 yX7_countRuns mi_X7_countRuns 1 := ⟨lb_X7_countRuns, Wt_of (tk_4 _ (List.mem_of_getElem? (i := 210) rfl)) rfl, Wt_of (tk_4 _ (List.mem_of_getElem? (i := 211) rfl)) rfl, Wt_of (tk_4 _ (List.mem_of_getElem? (i := 212) rfl)) rfl⟩
theorem lb_X7_findRun : LkB yX7_findRun mi_X7_findRun 2 := ⟨Wt_of (tk_4 _ (List.mem_of_getElem? (i := 222) rfl)) rfl, Wt_of (tk_1 _ (List.mem_of_getElem? (i := 8) rfl)) rfl, by decide, by decide, by decide +kernel⟩
theorem lk_X11_299 : LkV RX11 299 yX7_findRun mi_X7_findRun 2 := ⟨lb_X7_findRun, Wt_of (tk_4 _ (List.mem_of_getElem? (i := 219) rfl)) rfl, Wt_of (tk_4 _ (List.mem_of_getElem? (i := 220) rfl)) rfl, Wt_of (tk_4 _ (List.mem_of_getElem? (i := 221) rfl)) rfl⟩
theorem lb_X7_longestGap : LkB yX7_longestGap mi_X7_longestGap 0 := ⟨Wt_of (tk_4 _ (List.mem_of_getElem? (i := 238) rfl)) rfl, Wt_of (tk_1 _ (List.mem_of_getElem? (i := 8) rfl)) rfl, by decide, by decide, by decide +kernel⟩
theorem lk_X11_311 : LkV RX11 311 yX7_longestGap mi_X7_longestGap 0 := ⟨lb_X7_longestGap, Wt_of (tk_4 _ (List.mem_of_getElem? (i := 235) rfl)) rfl, Wt_of (tk_4 _ (List.mem_of_getElem? (i := 236) rfl)) rfl, Wt_of (tk_4 _ (List.mem_of_getElem? (i := 237) rfl)) rfl⟩
theorem lb_X7_unseenTicks : LkB yX7_unseenTicks mi_X7_unseenTicks 0 := ⟨Wt_of (tk_5 _ (List.mem_of_getElem? (i := 10) rfl)) rfl, Wt_of (tk_1 _ (List.mem_of_getElem? (i := 8) rfl)) rfl, by decide, by decide, by decide +kernel⟩
theorem lk_X11_316 : LkV RX11 316 yX7_unseenTicks mi_X7_unseenTicks 0 := ⟨lb_X7_unseenTicks, Wt_of (tk_5 _ (List.mem_of_getElem? (i := 7) rfl)) rfl, Wt_of (tk_5 _ (List.mem_of_getElem? (i := 8) rfl)) rfl, Wt_of (tk_5 _ (List.mem_of_getElem? (i := 9) rfl)) rfl⟩
theorem lb_X11_doubleBits : LkB yX11_doubleBits mi_X11_doubleBits 1 := ⟨Wt_of (tk_5 _ (List.mem_of_getElem? (i := 13) rfl)) rfl, Wt_of (tk_1 _ (List.mem_of_getElem? (i := 1) rfl)) rfl, by decide, by decide, by decide +kernel⟩
theorem lk_X11_319 : LkS RX11 319 yX11_doubleBits mi_X11_doubleBits 1 := ⟨lb_X11_doubleBits, Wt_of (tk_5 _ (List.mem_of_getElem? (i := 11) rfl)) rfl, Wt_of (tk_5 _ (List.mem_of_getElem? (i := 12) rfl)) rfl⟩
theorem lb_X6_countSeen : LkB yX6_countSeen mi_X6_countSeen 1 := ⟨Wt_of (tk_5 _ (List.mem_of_getElem? (i := 26) rfl)) rfl, Wt_of (tk_1 _ (List.mem_of_getElem? (i := 7) rfl)) rfl, by decide, by decide, by decide +kernel⟩
theorem lk_X11_323 : LkV RX11 323 yX6_countSeen mi_X6_countSeen 1 := ⟨lb_X6_countSeen, Wt_of (tk_5 _ (List.mem_of_getElem? (i := 23) rfl)) rfl, Wt_of (tk_5 _ (List.mem_of_getElem? (i := 24) rfl)) rfl, Wt_of (tk_5 _ (List.mem_of_getElem? (i := 25) rfl)) rfl⟩
theorem lb_X6_coverAt : LkB yX6_coverAt mi_X6_coverAt 1 := ⟨Wt_of (tk_5 _ (List.mem_of_getElem? (i := 35) rfl)) rfl, Wt_of (tk_1 _ (List.mem_of_getElem? (i := 7) rfl)) rfl, by decide, by decide, by decide +kernel⟩
theorem lk_X11_326 : LkV RX11 326 yX6_coverAt mi_X6_coverAt 1 := ⟨lb_X6_coverAt, Wt_of (tk_5 _ (List.mem_of_getElem? (i := 32) rfl)) rfl, Wt_of (tk_5 _ (List.mem_of_getElem? (i := 33) rfl)) rfl, Wt_of (tk_5 _ (List.mem_of_getElem? (i := 34) rfl)) rfl⟩
theorem lb_X11_floatBits : LkB yX11_floatBits mi_X11_floatBits 1 := ⟨Wt_of (tk_5 _ (List.mem_of_getElem? (i := 38) rfl)) rfl, Wt_of (tk_1 _ (List.mem_of_getElem? (i := 1) rfl)) rfl, by decide, by decide, by decide +kernel⟩
theorem lk_X11_330 : LkS RX11 330 yX11_floatBits mi_X11_floatBits 1 := ⟨lb_X11_floatBits, Wt_of (tk_5 _ (List.mem_of_getElem? (i := 36) rfl)) rfl, Wt_of (tk_5 _ (List.mem_of_getElem? (i := 37) rfl)) rfl⟩
theorem lb_X4_stands : LkB yX4_stands mi_X4_stands 0 := ⟨Wt_of (tk_4 _ (List.mem_of_getElem? (i := 172) rfl)) rfl, Wt_of (tk_1 _ (List.mem_of_getElem? (i := 3) rfl)) rfl, by decide, by decide, by decide +kernel⟩
theorem lk_X11_334 : LkV RX11 334 yX4_stands mi_X4_stands 0 := ⟨lb_X4_stands, Wt_of (tk_4 _ (List.mem_of_getElem? (i := 169) rfl)) rfl, Wt_of (tk_4 _ (List.mem_of_getElem? (i := 170) rfl)) rfl, Wt_of (tk_4 _ (List.mem_of_getElem? (i := 171) rfl)) rfl⟩
theorem lb_X6_meanCover : LkB yX6_meanCover mi_X6_meanCover 0 := ⟨Wt_of (tk_5 _ (List.mem_of_getElem? (i := 48) rfl)) rfl, Wt_of (tk_1 _ (List.mem_of_getElem? (i := 7) rfl)) rfl, by decide, by decide, by decide +kernel⟩
theorem lk_X11_337 : LkV RX11 337 yX6_meanCover mi_X6_meanCover 0 := ⟨lb_X6_meanCover, Wt_of (tk_5 _ (List.mem_of_getElem? (i := 45) rfl)) rfl, Wt_of (tk_5 _ (List.mem_of_getElem? (i := 46) rfl)) rfl, Wt_of (tk_5 _ (List.mem_of_getElem? (i := 47) rfl)) rfl⟩
theorem lb_X6_worstGap : LkB yX6_worstGap mi_X6_worstGap 0 := ⟨Wt_of (tk_5 _ (List.mem_of_getElem? (i := 57) rfl)) rfl, Wt_of (tk_1 _ (List.mem_of_getElem? (i := 7) rfl)) rfl, by decide, by decide, by decide +kernel⟩
theorem lk_X11_341 : LkV RX11 341 yX6_worstGap mi_X6_worstGap 0 := ⟨lb_X6_worstGap, Wt_of (tk_5 _ (List.mem_of_getElem? (i := 54) rfl)) rfl, Wt_of (tk_5 _ (List.mem_of_getElem? (i := 55) rfl)) rfl, Wt_of (tk_5 _ (List.mem_of_getElem? (i := 56) rfl)) rfl⟩
theorem lb_X6_firstRowWith : LkB yX6_firstRowWith mi_X6_firstRowWith 1 := ⟨Wt_of (tk_5 _ (List.mem_of_getElem? (i := 74) rfl)) rfl, Wt_of (tk_1 _ (List.mem_of_getElem? (i := 7) rfl)) rfl, by decide, by decide, by decide +kernel⟩
theorem lk_X11_344 : LkV RX11 344 yX6_firstRowWith mi_X6_firstRowWith 1 := ⟨lb_X6_firstRowWith, Wt_of (tk_5 _ (List.mem_of_getElem? (i := 71) rfl)) rfl, Wt_of (tk_5 _ (List.mem_of_getElem? (i := 72) rfl)) rfl, Wt_of (tk_5 _ (List.mem_of_getElem? (i := 73) rfl)) rfl⟩
theorem lb_X11_firstColumnWith : LkB yX11_firstColumnWith mi_X11_firstColumnWith 2 := ⟨Wt_of (tk_5 _ (List.mem_of_getElem? (i := 78) rfl)) rfl, Wt_of (tk_1 _ (List.mem_of_getElem? (i := 1) rfl)) rfl, by decide, by decide, by decide +kernel⟩
theorem lk_X11_347 : LkV RX11 347 yX11_firstColumnWith mi_X11_firstColumnWith 2 := ⟨lb_X11_firstColumnWith, Wt_of (tk_5 _ (List.mem_of_getElem? (i := 75) rfl)) rfl, Wt_of (tk_5 _ (List.mem_of_getElem? (i := 77) rfl)) rfl, Wt_of (tk_0 _ (List.mem_of_getElem? (i := 29) rfl)) rfl⟩
theorem lb_X6_countNever : LkB yX6_countNever mi_X6_countNever 0 := ⟨Wt_of (tk_5 _ (List.mem_of_getElem? (i := 86) rfl)) rfl, Wt_of (tk_1 _ (List.mem_of_getElem? (i := 7) rfl)) rfl, by decide, by decide, by decide +kernel⟩
theorem lk_X11_350 : LkV RX11 350 yX6_countNever mi_X6_countNever 0 := ⟨lb_X6_countNever, Wt_of (tk_5 _ (List.mem_of_getElem? (i := 83) rfl)) rfl, Wt_of (tk_5 _ (List.mem_of_getElem? (i := 84) rfl)) rfl, Wt_of (tk_5 _ (List.mem_of_getElem? (i := 85) rfl)) rfl⟩
theorem lb_X6_ticksUntilAll : LkB yX6_ticksUntilAll mi_X6_ticksUntilAll 1 := ⟨Wt_of (tk_5 _ (List.mem_of_getElem? (i := 94) rfl)) rfl, Wt_of (tk_1 _ (List.mem_of_getElem? (i := 7) rfl)) rfl, by decide, by decide, by decide +kernel⟩
theorem lk_X11_353 : LkV RX11 353 yX6_ticksUntilAll mi_X6_ticksUntilAll 1 := ⟨lb_X6_ticksUntilAll, Wt_of (tk_5 _ (List.mem_of_getElem? (i := 91) rfl)) rfl, Wt_of (tk_5 _ (List.mem_of_getElem? (i := 92) rfl)) rfl, Wt_of (tk_5 _ (List.mem_of_getElem? (i := 93) rfl)) rfl⟩
theorem lb_X7_ticksUntilSeen : LkB yX7_ticksUntilSeen mi_X7_ticksUntilSeen 1 := ⟨Wt_of (tk_5 _ (List.mem_of_getElem? (i := 102) rfl)) rfl, Wt_of (tk_1 _ (List.mem_of_getElem? (i := 8) rfl)) rfl, by decide, by decide, by decide +kernel⟩
theorem lk_X11_356 : LkV RX11 356 yX7_ticksUntilSeen mi_X7_ticksUntilSeen 1 := ⟨lb_X7_ticksUntilSeen, Wt_of (tk_5 _ (List.mem_of_getElem? (i := 99) rfl)) rfl, Wt_of (tk_5 _ (List.mem_of_getElem? (i := 100) rfl)) rfl, Wt_of (tk_5 _ (List.mem_of_getElem? (i := 101) rfl)) rfl⟩
theorem lb_X9_tryPhases : LkB yX9_tryPhases mi_X9_tryPhases 1 := ⟨Wt_of (tk_5 _ (List.mem_of_getElem? (i := 110) rfl)) rfl, Wt_of (tk_1 _ (List.mem_of_getElem? (i := 9) rfl)) rfl, by decide, by decide, by decide +kernel⟩
theorem lk_X11_359 : LkV RX11 359 yX9_tryPhases mi_X9_tryPhases 1 := ⟨lb_X9_tryPhases, Wt_of (tk_5 _ (List.mem_of_getElem? (i := 107) rfl)) rfl, Wt_of (tk_5 _ (List.mem_of_getElem? (i := 108) rfl)) rfl, Wt_of (tk_5 _ (List.mem_of_getElem? (i := 109) rfl)) rfl⟩
theorem lb_X9_trySpreads : LkB yX9_trySpreads mi_X9_trySpreads 1 := ⟨Wt_of (tk_5 _ (List.mem_of_getElem? (i := 132) rfl)) rfl, Wt_of (tk_1 _ (List.mem_of_getElem? (i := 9) rfl)) rfl, by decide, by decide, by decide +kernel⟩
theorem lk_X11_369 : LkV RX11 369 yX9_trySpreads mi_X9_trySpreads 1 := ⟨lb_X9_trySpreads, Wt_of (tk_5 _ (List.mem_of_getElem? (i := 129) rfl)) rfl, Wt_of (tk_5 _ (List.mem_of_getElem? (i := 130) rfl)) rfl, Wt_of (tk_5 _ (List.mem_of_getElem? (i := 131) rfl)) rfl⟩
theorem lb_X9_tryLosses : LkB yX9_tryLosses mi_X9_tryLosses 0 := ⟨Wt_of (tk_5 _ (List.mem_of_getElem? (i := 155) rfl)) rfl, Wt_of (tk_1 _ (List.mem_of_getElem? (i := 9) rfl)) rfl, by decide, by decide, by decide +kernel⟩
theorem lk_X11_375 : LkV RX11 375 yX9_tryLosses mi_X9_tryLosses 0 := ⟨lb_X9_tryLosses, Wt_of (tk_5 _ (List.mem_of_getElem? (i := 152) rfl)) rfl, Wt_of (tk_5 _ (List.mem_of_getElem? (i := 153) rfl)) rfl, Wt_of (tk_5 _ (List.mem_of_getElem? (i := 154) rfl)) rfl⟩
theorem lb_X9_tryReliefs : LkB yX9_tryReliefs mi_X9_tryReliefs 1 := ⟨Wt_of (tk_5 _ (List.mem_of_getElem? (i := 168) rfl)) rfl, Wt_of (tk_1 _ (List.mem_of_getElem? (i := 9) rfl)) rfl, by decide, by decide, by decide +kernel⟩
theorem lk_X11_378 : LkV RX11 378 yX9_tryReliefs mi_X9_tryReliefs 1 := ⟨lb_X9_tryReliefs, Wt_of (tk_5 _ (List.mem_of_getElem? (i := 165) rfl)) rfl, Wt_of (tk_5 _ (List.mem_of_getElem? (i := 166) rfl)) rfl, Wt_of (tk_5 _ (List.mem_of_getElem? (i := 167) rfl)) rfl⟩
theorem lb_X9_tryNodes : LkB yX9_tryNodes mi_X9_tryNodes 1 := ⟨Wt_of (tk_5 _ (List.mem_of_getElem? (i := 176) rfl)) rfl, Wt_of (tk_1 _ (List.mem_of_getElem? (i := 9) rfl)) rfl, by decide, by decide, by decide +kernel⟩
theorem lk_X11_381 : LkV RX11 381 yX9_tryNodes mi_X9_tryNodes 1 := ⟨lb_X9_tryNodes, Wt_of (tk_5 _ (List.mem_of_getElem? (i := 173) rfl)) rfl, Wt_of (tk_5 _ (List.mem_of_getElem? (i := 174) rfl)) rfl, Wt_of (tk_5 _ (List.mem_of_getElem? (i := 175) rfl)) rfl⟩
theorem lb_X9_tryFewest : LkB yX9_tryFewest mi_X9_tryFewest 1 := ⟨Wt_of (tk_5 _ (List.mem_of_getElem? (i := 184) rfl)) rfl, Wt_of (tk_1 _ (List.mem_of_getElem? (i := 9) rfl)) rfl, by decide, by decide, by decide +kernel⟩
theorem lk_X11_384 : LkV RX11 384 yX9_tryFewest mi_X9_tryFewest 1 := ⟨lb_X9_tryFewest, Wt_of (tk_5 _ (List.mem_of_getElem? (i := 181) rfl)) rfl, Wt_of (tk_5 _ (List.mem_of_getElem? (i := 182) rfl)) rfl, Wt_of (tk_5 _ (List.mem_of_getElem? (i := 183) rfl)) rfl⟩
theorem lb_X6_countMeetings : LkB yX6_countMeetings mi_X6_countMeetings 2 := ⟨Wt_of (tk_5 _ (List.mem_of_getElem? (i := 197) rfl)) rfl, Wt_of (tk_1 _ (List.mem_of_getElem? (i := 7) rfl)) rfl, by decide, by decide, by decide +kernel⟩
theorem lk_X11_387 : LkV RX11 387 yX6_countMeetings mi_X6_countMeetings 2 := ⟨lb_X6_countMeetings, Wt_of (tk_5 _ (List.mem_of_getElem? (i := 194) rfl)) rfl, Wt_of (tk_5 _ (List.mem_of_getElem? (i := 195) rfl)) rfl, Wt_of (tk_5 _ (List.mem_of_getElem? (i := 196) rfl)) rfl⟩
theorem lb_X6_extremeTick : LkB yX6_extremeTick mi_X6_extremeTick 1 := ⟨Wt_of (tk_5 _ (List.mem_of_getElem? (i := 207) rfl)) rfl, Wt_of (tk_1 _ (List.mem_of_getElem? (i := 7) rfl)) rfl, by decide, by decide, by decide +kernel⟩
theorem lk_X11_390 : LkV RX11 390 yX6_extremeTick mi_X6_extremeTick 1 := ⟨lb_X6_extremeTick, Wt_of (tk_5 _ (List.mem_of_getElem? (i := 204) rfl)) rfl, Wt_of (tk_5 _ (List.mem_of_getElem? (i := 205) rfl)) rfl, Wt_of (tk_5 _ (List.mem_of_getElem? (i := 206) rfl)) rfl⟩
theorem lb_X7_deepestTick : LkB yX7_deepestTick mi_X7_deepestTick 0 := ⟨Wt_of (tk_5 _ (List.mem_of_getElem? (i := 216) rfl)) rfl, Wt_of (tk_1 _ (List.mem_of_getElem? (i := 8) rfl)) rfl, by decide, by decide, by decide +kernel⟩
theorem lk_X11_394 : LkV RX11 394 yX7_deepestTick mi_X7_deepestTick 0 := ⟨lb_X7_deepestTick, Wt_of (tk_5 _ (List.mem_of_getElem? (i := 213) rfl)) rfl, Wt_of (tk_5 _ (List.mem_of_getElem? (i := 214) rfl)) rfl, Wt_of (tk_5 _ (List.mem_of_getElem? (i := 215) rfl)) rfl⟩
theorem lb_X7_depthAt : LkB yX7_depthAt mi_X7_depthAt 1 := ⟨Wt_of (tk_5 _ (List.mem_of_getElem? (i := 220) rfl)) rfl, Wt_of (tk_1 _ (List.mem_of_getElem? (i := 8) rfl)) rfl, by decide, by decide, by decide +kernel⟩
theorem lk_X11_397 : LkV RX11 397 yX7_depthAt mi_X7_depthAt 1 := ⟨lb_X7_depthAt, Wt_of (tk_5 _ (List.mem_of_getElem? (i := 222) rfl)) rfl, Wt_of (tk_5 _ (List.mem_of_getElem? (i := 218) rfl)) rfl, Wt_of (tk_5 _ (List.mem_of_getElem? (i := 219) rfl)) rfl⟩
theorem lb_X7_countDouble : LkB yX7_countDouble mi_X7_countDouble 0 := ⟨Wt_of (tk_5 _ (List.mem_of_getElem? (i := 226) rfl)) rfl, Wt_of (tk_1 _ (List.mem_of_getElem? (i := 8) rfl)) rfl, by decide, by decide, by decide +kernel⟩
theorem lk_X11_400 : LkV RX11 400 yX7_countDouble mi_X7_countDouble 0 := ⟨lb_X7_countDouble, Wt_of (tk_5 _ (List.mem_of_getElem? (i := 223) rfl)) rfl, Wt_of (tk_5 _ (List.mem_of_getElem? (i := 224) rfl)) rfl, Wt_of (tk_5 _ (List.mem_of_getElem? (i := 225) rfl)) rfl⟩
theorem lb_X9_tryCouples : LkB yX9_tryCouples mi_X9_tryCouples 0 := ⟨Wt_of (tk_5 _ (List.mem_of_getElem? (i := 234) rfl)) rfl, Wt_of (tk_1 _ (List.mem_of_getElem? (i := 9) rfl)) rfl, by decide, by decide, by decide +kernel⟩
theorem lk_X11_403 : LkV RX11 403 yX9_tryCouples mi_X9_tryCouples 0 := ⟨lb_X9_tryCouples, Wt_of (tk_5 _ (List.mem_of_getElem? (i := 231) rfl)) rfl, Wt_of (tk_5 _ (List.mem_of_getElem? (i := 232) rfl)) rfl, Wt_of (tk_5 _ (List.mem_of_getElem? (i := 233) rfl)) rfl⟩
theorem lb_X0_start : LkB yX0_start mi_X0_start 1 := ⟨Wt_of (tk_6 _ (List.mem_of_getElem? (i := 2) rfl)) rfl, Wt_of (tk_1 _ (List.mem_of_getElem? (i := 10) rfl)) rfl, by decide, by decide, by decide +kernel⟩
theorem lk_X11_409 : LkV RX11 409 yX0_start mi_X0_start 1 := ⟨lb_X0_start, Wt_of (tk_5 _ (List.mem_of_getElem? (i := 239) rfl)) rfl, Wt_of (tk_6 _ (List.mem_of_getElem? (i := 0) rfl)) rfl, Wt_of (tk_6 _ (List.mem_of_getElem? (i := 1) rfl)) rfl⟩
theorem lb_X0_hasReached : LkB yX0_hasReached mi_X0_hasReached 1 := ⟨Wt_of (tk_6 _ (List.mem_of_getElem? (i := 6) rfl)) rfl, Wt_of (tk_1 _ (List.mem_of_getElem? (i := 10) rfl)) rfl, by decide, by decide, by decide +kernel⟩
theorem lk_X11_412 : LkV RX11 412 yX0_hasReached mi_X0_hasReached 1 := ⟨lb_X0_hasReached, Wt_of (tk_6 _ (List.mem_of_getElem? (i := 3) rfl)) rfl, Wt_of (tk_6 _ (List.mem_of_getElem? (i := 4) rfl)) rfl, Wt_of (tk_6 _ (List.mem_of_getElem? (i := 5) rfl)) rfl⟩
theorem lb_X0_step : LkB yX0_step mi_X0_step 2 := ⟨Wt_of (tk_6 _ (List.mem_of_getElem? (i := 10) rfl)) rfl, Wt_of (tk_1 _ (List.mem_of_getElem? (i := 10) rfl)) rfl, by decide, by decide, by decide +kernel⟩
theorem lk_X11_415 : LkV RX11 415 yX0_step mi_X0_step 2 := ⟨lb_X0_step, Wt_of (tk_6 _ (List.mem_of_getElem? (i := 7) rfl)) rfl, Wt_of (tk_6 _ (List.mem_of_getElem? (i := 8) rfl)) rfl, Wt_of (tk_6 _ (List.mem_of_getElem? (i := 9) rfl)) rfl⟩
theorem lb_X11_sitesReached : LkB yX11_sitesReached mi_X11_sitesReached 3 := ⟨Wt_of (tk_6 _ (List.mem_of_getElem? (i := 20) rfl)) rfl, Wt_of (tk_1 _ (List.mem_of_getElem? (i := 1) rfl)) rfl, by decide, by decide, by decide +kernel⟩
theorem lk_X11_419 : LkV RX11 419 yX11_sitesReached mi_X11_sitesReached 3 := ⟨lb_X11_sitesReached, Wt_of (tk_6 _ (List.mem_of_getElem? (i := 17) rfl)) rfl, Wt_of (tk_6 _ (List.mem_of_getElem? (i := 19) rfl)) rfl, Wt_of (tk_0 _ (List.mem_of_getElem? (i := 34) rfl)) rfl⟩
theorem lb_X3_take : LkB yX3_take mi_X3_take 1 := ⟨Wt_of (tk_6 _ (List.mem_of_getElem? (i := 32) rfl)) rfl, Wt_of (tk_1 _ (List.mem_of_getElem? (i := 11) rfl)) rfl, by decide, by decide, by decide +kernel⟩
theorem lk_X11_423 : LkV RX11 423 yX3_take mi_X3_take 1 := ⟨lb_X3_take, Wt_of (tk_6 _ (List.mem_of_getElem? (i := 29) rfl)) rfl, Wt_of (tk_6 _ (List.mem_of_getElem? (i := 30) rfl)) rfl, Wt_of (tk_6 _ (List.mem_of_getElem? (i := 31) rfl)) rfl⟩
theorem lb_X3_suspects : LkB yX3_suspects mi_X3_suspects 1 := ⟨Wt_of (tk_6 _ (List.mem_of_getElem? (i := 44) rfl)) rfl, Wt_of (tk_1 _ (List.mem_of_getElem? (i := 11) rfl)) rfl, by decide, by decide, by decide +kernel⟩
theorem lk_X11_426 : LkV RX11 426 yX3_suspects mi_X3_suspects 1 := ⟨lb_X3_suspects, Wt_of (tk_6 _ (List.mem_of_getElem? (i := 41) rfl)) rfl, Wt_of (tk_6 _ (List.mem_of_getElem? (i := 42) rfl)) rfl, Wt_of (tk_6 _ (List.mem_of_getElem? (i := 43) rfl)) rfl⟩
theorem lb_X11_placeOfBit : LkB yX11_placeOfBit mi_X11_placeOfBit 2 := ⟨Wt_of (tk_6 _ (List.mem_of_getElem? (i := 52) rfl)) rfl, Wt_of (tk_1 _ (List.mem_of_getElem? (i := 1) rfl)) rfl, by decide, by decide, by decide +kernel⟩
theorem lk_X11_429 : LkS RX11 429 yX11_placeOfBit mi_X11_placeOfBit 2 := ⟨lb_X11_placeOfBit, Wt_of (tk_6 _ (List.mem_of_getElem? (i := 50) rfl)) rfl, Wt_of (tk_6 _ (List.mem_of_getElem? (i := 51) rfl)) rfl⟩
theorem lb_X3_findTelling : LkB yX3_findTelling mi_X3_findTelling 2 := ⟨Wt_of (tk_6 _ (List.mem_of_getElem? (i := 60) rfl)) rfl, Wt_of (tk_1 _ (List.mem_of_getElem? (i := 11) rfl)) rfl, by decide, by decide, by decide +kernel⟩
theorem lk_X11_432 : LkV RX11 432 yX3_findTelling mi_X3_findTelling 2 := ⟨lb_X3_findTelling, Wt_of (tk_6 _ (List.mem_of_getElem? (i := 57) rfl)) rfl, Wt_of (tk_6 _ (List.mem_of_getElem? (i := 58) rfl)) rfl, Wt_of (tk_6 _ (List.mem_of_getElem? (i := 59) rfl)) rfl⟩
theorem lb_X11_beginAct : LkB yX11_beginAct mi_X11_beginAct 0 := ⟨Wt_of (tk_6 _ (List.mem_of_getElem? (i := 77) rfl)) rfl, Wt_of (tk_1 _ (List.mem_of_getElem? (i := 1) rfl)) rfl, by decide, by decide, by decide +kernel⟩
theorem lk_X11_441 : LkV RX11 441 yX11_beginAct mi_X11_beginAct 0 := ⟨lb_X11_beginAct, Wt_of (tk_6 _ (List.mem_of_getElem? (i := 74) rfl)) rfl, Wt_of (tk_6 _ (List.mem_of_getElem? (i := 76) rfl)) rfl, Wt_of (tk_0 _ (List.mem_of_getElem? (i := 37) rfl)) rfl⟩
theorem lb_X1_turnOver : LkB yX1_turnOver mi_X1_turnOver 1 := ⟨Wt_of (tk_3 _ (List.mem_of_getElem? (i := 217) rfl)) rfl, Wt_of (tk_1 _ (List.mem_of_getElem? (i := 4) rfl)) rfl, by decide, by decide, by decide +kernel⟩
theorem lk_X11_444 : LkV RX11 444 yX1_turnOver mi_X1_turnOver 1 := ⟨lb_X1_turnOver, Wt_of (tk_6 _ (List.mem_of_getElem? (i := 84) rfl)) rfl, Wt_of (tk_3 _ (List.mem_of_getElem? (i := 215) rfl)) rfl, Wt_of (tk_3 _ (List.mem_of_getElem? (i := 216) rfl)) rfl⟩
theorem lb_X4_turnOf : LkB yX4_turnOf mi_X4_turnOf 1 := ⟨Wt_of (tk_3 _ (List.mem_of_getElem? (i := 212) rfl)) rfl, Wt_of (tk_1 _ (List.mem_of_getElem? (i := 3) rfl)) rfl, by decide, by decide, by decide +kernel⟩
theorem lk_X11_447 : LkV RX11 447 yX4_turnOf mi_X4_turnOf 1 := ⟨lb_X4_turnOf, Wt_of (tk_6 _ (List.mem_of_getElem? (i := 93) rfl)) rfl, Wt_of (tk_3 _ (List.mem_of_getElem? (i := 210) rfl)) rfl, Wt_of (tk_3 _ (List.mem_of_getElem? (i := 211) rfl)) rfl⟩
theorem lb_X1_spreadOut : LkB yX1_spreadOut mi_X1_spreadOut 3 := ⟨Wt_of (tk_5 _ (List.mem_of_getElem? (i := 137) rfl)) rfl, Wt_of (tk_1 _ (List.mem_of_getElem? (i := 4) rfl)) rfl, by decide, by decide, by decide +kernel⟩
theorem lk_X11_450 : LkV RX11 450 yX1_spreadOut mi_X1_spreadOut 3 := ⟨lb_X1_spreadOut, Wt_of (tk_6 _ (List.mem_of_getElem? (i := 106) rfl)) rfl, Wt_of (tk_5 _ (List.mem_of_getElem? (i := 135) rfl)) rfl, Wt_of (tk_5 _ (List.mem_of_getElem? (i := 136) rfl)) rfl⟩
theorem lb_X11_changeByChance : LkB yX11_changeByChance mi_X11_changeByChance 0 := ⟨Wt_of (tk_6 _ (List.mem_of_getElem? (i := 114) rfl)) rfl, Wt_of (tk_1 _ (List.mem_of_getElem? (i := 1) rfl)) rfl, by decide, by decide, by decide +kernel⟩
theorem lk_X11_454 : LkV RX11 454 yX11_changeByChance mi_X11_changeByChance 0 := ⟨lb_X11_changeByChance, Wt_of (tk_6 _ (List.mem_of_getElem? (i := 111) rfl)) rfl, Wt_of (tk_6 _ (List.mem_of_getElem? (i := 113) rfl)) rfl, Wt_of (tk_0 _ (List.mem_of_getElem? (i := 38) rfl)) rfl⟩
theorem lb_X2_restore : LkB yX2_restore mi_X2_restore 1 := ⟨Wt_of (tk_6 _ (List.mem_of_getElem? (i := 129) rfl)) rfl, Wt_of (tk_1 _ (List.mem_of_getElem? (i := 6) rfl)) rfl, by decide, by decide, by decide +kernel⟩
theorem lk_X11_457 : LkV RX11 457 yX2_restore mi_X2_restore 1 := ⟨lb_X2_restore, Wt_of (tk_6 _ (List.mem_of_getElem? (i := 126) rfl)) rfl, Wt_of (tk_6 _ (List.mem_of_getElem? (i := 127) rfl)) rfl, Wt_of (tk_6 _ (List.mem_of_getElem? (i := 128) rfl)) rfl⟩
theorem lb_X1_write : LkB yX1_write mi_X1_write 2 := ⟨Wt_of (tk_6 _ (List.mem_of_getElem? (i := 141) rfl)) rfl, Wt_of (tk_1 _ (List.mem_of_getElem? (i := 4) rfl)) rfl, by decide, by decide, by decide +kernel⟩
theorem lk_X11_460 : LkV RX11 460 yX1_write mi_X1_write 2 := ⟨lb_X1_write, Wt_of (tk_6 _ (List.mem_of_getElem? (i := 138) rfl)) rfl, Wt_of (tk_6 _ (List.mem_of_getElem? (i := 139) rfl)) rfl, Wt_of (tk_6 _ (List.mem_of_getElem? (i := 140) rfl)) rfl⟩
theorem lb_X1_readImage : LkB yX1_readImage mi_X1_readImage 2 := ⟨Wt_of (tk_6 _ (List.mem_of_getElem? (i := 157) rfl)) rfl, Wt_of (tk_1 _ (List.mem_of_getElem? (i := 4) rfl)) rfl, by decide, by decide, by decide +kernel⟩
theorem lk_X11_464 : LkV RX11 464 yX1_readImage mi_X1_readImage 2 := ⟨lb_X1_readImage, Wt_of (tk_6 _ (List.mem_of_getElem? (i := 154) rfl)) rfl, Wt_of (tk_6 _ (List.mem_of_getElem? (i := 155) rfl)) rfl, Wt_of (tk_6 _ (List.mem_of_getElem? (i := 156) rfl)) rfl⟩
theorem lb_X11_rest : LkB yX11_rest mi_X11_rest 2 := ⟨Wt_of (tk_4 _ (List.mem_of_getElem? (i := 2) rfl)) rfl, Wt_of (tk_1 _ (List.mem_of_getElem? (i := 1) rfl)) rfl, by decide, by decide, by decide +kernel⟩
theorem lk_X11_468 : LkS RX11 468 yX11_rest mi_X11_rest 2 := ⟨lb_X11_rest, Wt_of (tk_4 _ (List.mem_of_getElem? (i := 146) rfl)) rfl, Wt_of (tk_4 _ (List.mem_of_getElem? (i := 1) rfl)) rfl⟩
theorem lb_X6_drawAll : LkB yX6_drawAll mi_X6_drawAll 1 := ⟨Wt_of (tk_4 _ (List.mem_of_getElem? (i := 88) rfl)) rfl, Wt_of (tk_1 _ (List.mem_of_getElem? (i := 7) rfl)) rfl, by decide, by decide, by decide +kernel⟩
theorem lk_X11_471 : LkV RX11 471 yX6_drawAll mi_X6_drawAll 1 := ⟨lb_X6_drawAll, Wt_of (tk_4 _ (List.mem_of_getElem? (i := 85) rfl)) rfl, Wt_of (tk_4 _ (List.mem_of_getElem? (i := 86) rfl)) rfl, Wt_of (tk_4 _ (List.mem_of_getElem? (i := 87) rfl)) rfl⟩
theorem lb_X6_hold : LkB yX6_hold mi_X6_hold 1 := ⟨Wt_of (tk_4 _ (List.mem_of_getElem? (i := 120) rfl)) rfl, Wt_of (tk_1 _ (List.mem_of_getElem? (i := 7) rfl)) rfl, by decide, by decide, by decide +kernel⟩
theorem lk_X11_474 : LkV RX11 474 yX6_hold mi_X6_hold 1 := ⟨lb_X6_hold, Wt_of (tk_4 _ (List.mem_of_getElem? (i := 117) rfl)) rfl, Wt_of (tk_4 _ (List.mem_of_getElem? (i := 118) rfl)) rfl, Wt_of (tk_4 _ (List.mem_of_getElem? (i := 119) rfl)) rfl⟩
theorem lb_X6_join : LkB yX6_join mi_X6_join 1 := ⟨Wt_of (tk_4 _ (List.mem_of_getElem? (i := 128) rfl)) rfl, Wt_of (tk_1 _ (List.mem_of_getElem? (i := 7) rfl)) rfl, by decide, by decide, by decide +kernel⟩
theorem lk_X11_477 : LkV RX11 477 yX6_join mi_X6_join 1 := ⟨lb_X6_join, Wt_of (tk_4 _ (List.mem_of_getElem? (i := 125) rfl)) rfl, Wt_of (tk_4 _ (List.mem_of_getElem? (i := 126) rfl)) rfl, Wt_of (tk_4 _ (List.mem_of_getElem? (i := 127) rfl)) rfl⟩
theorem lb_X2_keep : LkB yX2_keep mi_X2_keep 1 := ⟨Wt_of (tk_6 _ (List.mem_of_getElem? (i := 81) rfl)) rfl, Wt_of (tk_1 _ (List.mem_of_getElem? (i := 6) rfl)) rfl, by decide, by decide, by decide +kernel⟩
theorem lk_X11_480 : LkV RX11 480 yX2_keep mi_X2_keep 1 := ⟨lb_X2_keep, Wt_of (tk_6 _ (List.mem_of_getElem? (i := 78) rfl)) rfl, Wt_of (tk_6 _ (List.mem_of_getElem? (i := 79) rfl)) rfl, Wt_of (tk_6 _ (List.mem_of_getElem? (i := 80) rfl)) rfl⟩
theorem lb_X7_begins : LkB yX7_begins mi_X7_begins 2 := ⟨Wt_of (tk_4 _ (List.mem_of_getElem? (i := 150) rfl)) rfl, Wt_of (tk_1 _ (List.mem_of_getElem? (i := 8) rfl)) rfl, by decide, by decide, by decide +kernel⟩
theorem lk_X11_483 : LkV RX11 483 yX7_begins mi_X7_begins 2 := ⟨lb_X7_begins, Wt_of (tk_4 _ (List.mem_of_getElem? (i := 147) rfl)) rfl, Wt_of (tk_4 _ (List.mem_of_getElem? (i := 148) rfl)) rfl, Wt_of (tk_4 _ (List.mem_of_getElem? (i := 149) rfl)) rfl⟩
theorem lb_X7_lengthFrom : LkB yX7_lengthFrom mi_X7_lengthFrom 2 := ⟨Wt_of (tk_4 _ (List.mem_of_getElem? (i := 158) rfl)) rfl, Wt_of (tk_1 _ (List.mem_of_getElem? (i := 8) rfl)) rfl, by decide, by decide, by decide +kernel⟩
theorem lk_X11_486 : LkV RX11 486 yX7_lengthFrom mi_X7_lengthFrom 2 := ⟨lb_X7_lengthFrom, Wt_of (tk_4 _ (List.mem_of_getElem? (i := 160) rfl)) rfl, Wt_of (tk_4 _ (List.mem_of_getElem? (i := 156) rfl)) rfl, Wt_of (tk_4 _ (List.mem_of_getElem? (i := 157) rfl)) rfl⟩
theorem lb_X11_draw : LkB yX11_draw mi_X11_draw 1 := ⟨Wt_of (tk_6 _ (List.mem_of_getElem? (i := 118) rfl)) rfl, Wt_of (tk_1 _ (List.mem_of_getElem? (i := 1) rfl)) rfl, by decide, by decide, by decide +kernel⟩
theorem lk_X11_496 : LkV RX11 496 yX11_draw mi_X11_draw 1 := ⟨lb_X11_draw, Wt_of (tk_6 _ (List.mem_of_getElem? (i := 115) rfl)) rfl, Wt_of (tk_6 _ (List.mem_of_getElem? (i := 117) rfl)) rfl, Wt_of (tk_0 _ (List.mem_of_getElem? (i := 39) rfl)) rfl⟩
theorem lk_X0_27 : LkV RX0 27 yX0_hasReached mi_X0_hasReached 1 := ⟨lb_X0_hasReached, Wt_of (tk_6 _ (List.mem_of_getElem? (i := 11) rfl)) rfl, Wt_of (tk_6 _ (List.mem_of_getElem? (i := 4) rfl)) rfl, Wt_of (tk_6 _ (List.mem_of_getElem? (i := 5) rfl)) rfl⟩
theorem lk_X0_38 : LkV RX0 38 yX6_whoSees mi_X6_whoSees 4 := ⟨lb_X6_whoSees, Wt_of (tk_6 _ (List.mem_of_getElem? (i := 12) rfl)) rfl, Wt_of (tk_4 _ (List.mem_of_getElem? (i := 143) rfl)) rfl, Wt_of (tk_4 _ (List.mem_of_getElem? (i := 144) rfl)) rfl⟩
theorem lk_X1_25 : Cond.methodLink RX1 25 arraycopyName ∈ Wt := Wt_of (tk_4 _ (List.mem_of_getElem? (i := 14) rfl)) rfl
theorem lk_X1_31 : LkV RX1 31 yX4_craftIn mi_X4_craftIn 1 := ⟨lb_X4_craftIn, Wt_of (tk_5 _ (List.mem_of_getElem? (i := 138) rfl)) rfl, Wt_of (tk_4 _ (List.mem_of_getElem? (i := 66) rfl)) rfl, Wt_of (tk_4 _ (List.mem_of_getElem? (i := 67) rfl)) rfl⟩
theorem lk_X1_37 : LkS RX1 37 yJ6_bitCount_0f7a4 mi_J6_bitCount_0f7a4 1 := ⟨lb_J6_bitCount_0f7a4, Wt_of (tk_5 _ (List.mem_of_getElem? (i := 139) rfl)) rfl, Wt_of (tk_4 _ (List.mem_of_getElem? (i := 37) rfl)) rfl⟩
theorem lb_X11_cut : LkB yX11_cut mi_X11_cut 2 := ⟨Wt_of (tk_4 _ (List.mem_of_getElem? (i := 111) rfl)) rfl, Wt_of (tk_1 _ (List.mem_of_getElem? (i := 1) rfl)) rfl, by decide, by decide, by decide +kernel⟩
theorem lk_X1_48 (E : Ev) : LkN (wCA E) RX1 48 yX11_cut mi_X11_cut 2 "OrbitDesk" := ⟨lb_X11_cut, Wt_of (tk_4 _ (List.mem_of_getElem? (i := 110) rfl)) rfl, fun s hs => hs.1 (RX1, 48, yX11_cut, "OrbitDesk") (by decide +kernel)⟩
theorem lk_X1_52 (E : Ev) : LkN (wCA E) RX1 52 yX11_rest mi_X11_rest 2 "OrbitDesk" := ⟨lb_X11_rest, Wt_of (tk_4 _ (List.mem_of_getElem? (i := 1) rfl)) rfl, fun s hs => hs.1 (RX1, 52, yX11_rest, "OrbitDesk") (by decide +kernel)⟩
theorem lk_X1_58 : LkV RX1 58 yX1_isUp mi_X1_isUp 1 := ⟨lb_X1_isUp, Wt_of (tk_6 _ (List.mem_of_getElem? (i := 142) rfl)) rfl, Wt_of (tk_4 _ (List.mem_of_getElem? (i := 74) rfl)) rfl, Wt_of (tk_4 _ (List.mem_of_getElem? (i := 75) rfl)) rfl⟩
theorem lb_X1_checkWith : LkB yX1_checkWith mi_X1_checkWith 2 := ⟨Wt_of (tk_6 _ (List.mem_of_getElem? (i := 145) rfl)) rfl, Wt_of (tk_1 _ (List.mem_of_getElem? (i := 4) rfl)) rfl, by decide, by decide, by decide +kernel⟩
theorem lk_X1_62 : LkS RX1 62 yX1_checkWith mi_X1_checkWith 2 := ⟨lb_X1_checkWith, Wt_of (tk_6 _ (List.mem_of_getElem? (i := 143) rfl)) rfl, Wt_of (tk_6 _ (List.mem_of_getElem? (i := 144) rfl)) rfl⟩
theorem lk_X1_65 : LkV RX1 65 yX8_size mi_X8_size 0 := ⟨lb_X8_size, Wt_of (tk_6 _ (List.mem_of_getElem? (i := 158) rfl)) rfl, Wt_of (tk_3 _ (List.mem_of_getElem? (i := 27) rfl)) rfl, Wt_of (tk_3 _ (List.mem_of_getElem? (i := 28) rfl)) rfl⟩
theorem lb_X8_byteAt : LkB yX8_byteAt mi_X8_byteAt 1 := ⟨Wt_of (tk_3 _ (List.mem_of_getElem? (i := 87) rfl)) rfl, Wt_of (tk_1 _ (List.mem_of_getElem? (i := 2) rfl)) rfl, by decide, by decide, by decide +kernel⟩
theorem lk_X1_71 : LkV RX1 71 yX8_byteAt mi_X8_byteAt 1 := ⟨lb_X8_byteAt, Wt_of (tk_6 _ (List.mem_of_getElem? (i := 159) rfl)) rfl, Wt_of (tk_3 _ (List.mem_of_getElem? (i := 85) rfl)) rfl, Wt_of (tk_3 _ (List.mem_of_getElem? (i := 86) rfl)) rfl⟩
theorem lb_X1_checkOf : LkB yX1_checkOf mi_X1_checkOf 2 := ⟨Wt_of (tk_6 _ (List.mem_of_getElem? (i := 162) rfl)) rfl, Wt_of (tk_1 _ (List.mem_of_getElem? (i := 4) rfl)) rfl, by decide, by decide, by decide +kernel⟩
theorem lk_X1_74 : LkS RX1 74 yX1_checkOf mi_X1_checkOf 2 := ⟨lb_X1_checkOf, Wt_of (tk_6 _ (List.mem_of_getElem? (i := 160) rfl)) rfl, Wt_of (tk_6 _ (List.mem_of_getElem? (i := 161) rfl)) rfl⟩
theorem lb_X1_readCraftImage : LkB yX1_readCraftImage mi_X1_readCraftImage 3 := ⟨Wt_of (tk_6 _ (List.mem_of_getElem? (i := 166) rfl)) rfl, Wt_of (tk_1 _ (List.mem_of_getElem? (i := 4) rfl)) rfl, by decide, by decide, by decide +kernel⟩
theorem lk_X1_81 : LkV RX1 81 yX1_readCraftImage mi_X1_readCraftImage 3 := ⟨lb_X1_readCraftImage, Wt_of (tk_6 _ (List.mem_of_getElem? (i := 163) rfl)) rfl, Wt_of (tk_6 _ (List.mem_of_getElem? (i := 165) rfl)) rfl, Wt_of (tk_0 _ (List.mem_of_getElem? (i := 40) rfl)) rfl⟩
theorem lk_X1_85 : LkV RX1 85 yX4_turnOf mi_X4_turnOf 1 := ⟨lb_X4_turnOf, Wt_of (tk_6 _ (List.mem_of_getElem? (i := 167) rfl)) rfl, Wt_of (tk_3 _ (List.mem_of_getElem? (i := 210) rfl)) rfl, Wt_of (tk_3 _ (List.mem_of_getElem? (i := 211) rfl)) rfl⟩
theorem lk_X2_25 : LkV RX2 25 yX1_take mi_X1_take 1 := ⟨lb_X1_take, Wt_of (tk_6 _ (List.mem_of_getElem? (i := 82) rfl)) rfl, Wt_of (tk_4 _ (List.mem_of_getElem? (i := 11) rfl)) rfl, Wt_of (tk_4 _ (List.mem_of_getElem? (i := 12) rfl)) rfl⟩
theorem lk_X2_29 : Cond.methodLink RX2 29 Lib.Math.min.name ∈ Wt := Wt_of (tk_6 _ (List.mem_of_getElem? (i := 83) rfl)) rfl
theorem lk_X3_45 : LkV RX3 45 yX8_size mi_X8_size 0 := ⟨lb_X8_size, Wt_of (tk_6 _ (List.mem_of_getElem? (i := 33) rfl)) rfl, Wt_of (tk_3 _ (List.mem_of_getElem? (i := 27) rfl)) rfl, Wt_of (tk_3 _ (List.mem_of_getElem? (i := 28) rfl)) rfl⟩
theorem lk_X3_51 : LkV RX3 51 yX4_stands mi_X4_stands 0 := ⟨lb_X4_stands, Wt_of (tk_6 _ (List.mem_of_getElem? (i := 34) rfl)) rfl, Wt_of (tk_4 _ (List.mem_of_getElem? (i := 170) rfl)) rfl, Wt_of (tk_4 _ (List.mem_of_getElem? (i := 171) rfl)) rfl⟩
theorem lk_X3_57 : LkV RX3 57 yX8_byteAt mi_X8_byteAt 1 := ⟨lb_X8_byteAt, Wt_of (tk_6 _ (List.mem_of_getElem? (i := 35) rfl)) rfl, Wt_of (tk_3 _ (List.mem_of_getElem? (i := 85) rfl)) rfl, Wt_of (tk_3 _ (List.mem_of_getElem? (i := 86) rfl)) rfl⟩
theorem lk_X3_61 : LkV RX3 61 yX4_hasCell mi_X4_hasCell 2 := ⟨lb_X4_hasCell, Wt_of (tk_6 _ (List.mem_of_getElem? (i := 36) rfl)) rfl, Wt_of (tk_4 _ (List.mem_of_getElem? (i := 190) rfl)) rfl, Wt_of (tk_4 _ (List.mem_of_getElem? (i := 191) rfl)) rfl⟩
theorem lb_X3_allSo : LkB yX3_allSo mi_X3_allSo 1 := ⟨Wt_of (tk_6 _ (List.mem_of_getElem? (i := 48) rfl)) rfl, Wt_of (tk_1 _ (List.mem_of_getElem? (i := 11) rfl)) rfl, by decide, by decide, by decide +kernel⟩
theorem lk_X3_71 : LkV RX3 71 yX3_allSo mi_X3_allSo 1 := ⟨lb_X3_allSo, Wt_of (tk_6 _ (List.mem_of_getElem? (i := 45) rfl)) rfl, Wt_of (tk_6 _ (List.mem_of_getElem? (i := 47) rfl)) rfl, Wt_of (tk_0 _ (List.mem_of_getElem? (i := 35) rfl)) rfl⟩
theorem lk_X3_75 : LkV RX3 75 yX6_whoSees mi_X6_whoSees 4 := ⟨lb_X6_whoSees, Wt_of (tk_6 _ (List.mem_of_getElem? (i := 49) rfl)) rfl, Wt_of (tk_4 _ (List.mem_of_getElem? (i := 143) rfl)) rfl, Wt_of (tk_4 _ (List.mem_of_getElem? (i := 144) rfl)) rfl⟩
theorem lb_X6_countSeenBy : LkB yX6_countSeenBy mi_X6_countSeenBy 2 := ⟨Wt_of (tk_6 _ (List.mem_of_getElem? (i := 64) rfl)) rfl, Wt_of (tk_1 _ (List.mem_of_getElem? (i := 7) rfl)) rfl, by decide, by decide, by decide +kernel⟩
theorem lk_X3_81 : LkV RX3 81 yX6_countSeenBy mi_X6_countSeenBy 2 := ⟨lb_X6_countSeenBy, Wt_of (tk_6 _ (List.mem_of_getElem? (i := 61) rfl)) rfl, Wt_of (tk_6 _ (List.mem_of_getElem? (i := 62) rfl)) rfl, Wt_of (tk_6 _ (List.mem_of_getElem? (i := 63) rfl)) rfl⟩
theorem lb_X3_mostAlike : LkB yX3_mostAlike mi_X3_mostAlike 1 := ⟨Wt_of (tk_6 _ (List.mem_of_getElem? (i := 68) rfl)) rfl, Wt_of (tk_1 _ (List.mem_of_getElem? (i := 11) rfl)) rfl, by decide, by decide, by decide +kernel⟩
theorem lk_X3_85 : LkV RX3 85 yX3_mostAlike mi_X3_mostAlike 1 := ⟨lb_X3_mostAlike, Wt_of (tk_6 _ (List.mem_of_getElem? (i := 65) rfl)) rfl, Wt_of (tk_6 _ (List.mem_of_getElem? (i := 67) rfl)) rfl, Wt_of (tk_0 _ (List.mem_of_getElem? (i := 36) rfl)) rfl⟩
theorem lk_X3_88 : Cond.methodLink RX3 88 Lib.Math.max.name ∈ Wt := Wt_of (tk_6 _ (List.mem_of_getElem? (i := 69) rfl)) rfl
theorem lk_X4_70 : Cond.methodLink RX4 70 arraycopyName ∈ Wt := Wt_of (tk_4 _ (List.mem_of_getElem? (i := 7) rfl)) rfl
theorem lb_X4_planeNamed : LkB yX4_planeNamed mi_X4_planeNamed 1 := ⟨Wt_of (tk_3 _ (List.mem_of_getElem? (i := 190) rfl)) rfl, Wt_of (tk_1 _ (List.mem_of_getElem? (i := 3) rfl)) rfl, by decide, by decide, by decide +kernel⟩
theorem lk_X4_76 : LkV RX4 76 yX4_planeNamed mi_X4_planeNamed 1 := ⟨lb_X4_planeNamed, Wt_of (tk_3 _ (List.mem_of_getElem? (i := 187) rfl)) rfl, Wt_of (tk_3 _ (List.mem_of_getElem? (i := 188) rfl)) rfl, Wt_of (tk_3 _ (List.mem_of_getElem? (i := 189) rfl)) rfl⟩
theorem lb_X4_placeOf : LkB yX4_placeOf mi_X4_placeOf 3 := ⟨Wt_of (tk_3 _ (List.mem_of_getElem? (i := 193) rfl)) rfl, Wt_of (tk_1 _ (List.mem_of_getElem? (i := 3) rfl)) rfl, by decide, by decide, by decide +kernel⟩
theorem lk_X4_80 : LkS RX4 80 yX4_placeOf mi_X4_placeOf 3 := ⟨lb_X4_placeOf, Wt_of (tk_3 _ (List.mem_of_getElem? (i := 191) rfl)) rfl, Wt_of (tk_3 _ (List.mem_of_getElem? (i := 192) rfl)) rfl⟩
theorem lk_X4_84 : Cond.methodLink RX4 84 Lib.Math.abs.name ∈ Wt := Wt_of (tk_3 _ (List.mem_of_getElem? (i := 230) rfl)) rfl
theorem lb_X4_leastCommon : LkB yX4_leastCommon mi_X4_leastCommon 2 := ⟨Wt_of (tk_3 _ (List.mem_of_getElem? (i := 239) rfl)) rfl, Wt_of (tk_1 _ (List.mem_of_getElem? (i := 3) rfl)) rfl, by decide, by decide, by decide +kernel⟩
theorem lk_X4_89 : LkS RX4 89 yX4_leastCommon mi_X4_leastCommon 2 := ⟨lb_X4_leastCommon, Wt_of (tk_3 _ (List.mem_of_getElem? (i := 237) rfl)) rfl, Wt_of (tk_3 _ (List.mem_of_getElem? (i := 238) rfl)) rfl⟩
theorem lk_X4_93 (E : Ev) : LkN (wCA E) RX4 93 yX11_rest mi_X11_rest 2 "OrbitDesk" := ⟨lb_X11_rest, Wt_of (tk_4 _ (List.mem_of_getElem? (i := 1) rfl)) rfl, fun s hs => hs.1 (RX4, 93, yX11_rest, "OrbitDesk") (by decide +kernel)⟩
theorem lb_X4_clear : LkB yX4_clear mi_X4_clear 0 := ⟨Wt_of (tk_3 _ (List.mem_of_getElem? (i := 61) rfl)) rfl, Wt_of (tk_1 _ (List.mem_of_getElem? (i := 3) rfl)) rfl, by decide, by decide, by decide +kernel⟩
theorem lk_X5_52 : LkV RX5 52 yX4_clear mi_X4_clear 0 := ⟨lb_X4_clear, Wt_of (tk_3 _ (List.mem_of_getElem? (i := 58) rfl)) rfl, Wt_of (tk_3 _ (List.mem_of_getElem? (i := 59) rfl)) rfl, Wt_of (tk_3 _ (List.mem_of_getElem? (i := 60) rfl)) rfl⟩
theorem lb_X1_clear : LkB yX1_clear mi_X1_clear 0 := ⟨Wt_of (tk_3 _ (List.mem_of_getElem? (i := 65) rfl)) rfl, Wt_of (tk_1 _ (List.mem_of_getElem? (i := 4) rfl)) rfl, by decide, by decide, by decide +kernel⟩
theorem lk_X5_57 : LkV RX5 57 yX1_clear mi_X1_clear 0 := ⟨lb_X1_clear, Wt_of (tk_3 _ (List.mem_of_getElem? (i := 62) rfl)) rfl, Wt_of (tk_3 _ (List.mem_of_getElem? (i := 63) rfl)) rfl, Wt_of (tk_3 _ (List.mem_of_getElem? (i := 64) rfl)) rfl⟩
theorem lb_X5_readGrid : LkB yX5_readGrid mi_X5_readGrid 0 := ⟨Wt_of (tk_3 _ (List.mem_of_getElem? (i := 69) rfl)) rfl, Wt_of (tk_1 _ (List.mem_of_getElem? (i := 5) rfl)) rfl, by decide, by decide, by decide +kernel⟩
theorem lk_X5_60 : LkV RX5 60 yX5_readGrid mi_X5_readGrid 0 := ⟨lb_X5_readGrid, Wt_of (tk_3 _ (List.mem_of_getElem? (i := 66) rfl)) rfl, Wt_of (tk_3 _ (List.mem_of_getElem? (i := 68) rfl)) rfl, Wt_of (tk_0 _ (List.mem_of_getElem? (i := 2) rfl)) rfl⟩
theorem lb_X5_skipBlanks : LkB yX5_skipBlanks mi_X5_skipBlanks 0 := ⟨Wt_of (tk_3 _ (List.mem_of_getElem? (i := 82) rfl)) rfl, Wt_of (tk_1 _ (List.mem_of_getElem? (i := 5) rfl)) rfl, by decide, by decide, by decide +kernel⟩
theorem lk_X5_64 : LkV RX5 64 yX5_skipBlanks mi_X5_skipBlanks 0 := ⟨lb_X5_skipBlanks, Wt_of (tk_3 _ (List.mem_of_getElem? (i := 79) rfl)) rfl, Wt_of (tk_3 _ (List.mem_of_getElem? (i := 81) rfl)) rfl, Wt_of (tk_0 _ (List.mem_of_getElem? (i := 5) rfl)) rfl⟩
theorem lk_X5_67 : LkV RX5 67 yX8_size mi_X8_size 0 := ⟨lb_X8_size, Wt_of (tk_3 _ (List.mem_of_getElem? (i := 83) rfl)) rfl, Wt_of (tk_3 _ (List.mem_of_getElem? (i := 27) rfl)) rfl, Wt_of (tk_3 _ (List.mem_of_getElem? (i := 28) rfl)) rfl⟩
theorem lb_X5_takeLetters : LkB yX5_takeLetters mi_X5_takeLetters 0 := ⟨Wt_of (tk_3 _ (List.mem_of_getElem? (i := 78) rfl)) rfl, Wt_of (tk_1 _ (List.mem_of_getElem? (i := 5) rfl)) rfl, by decide, by decide, by decide +kernel⟩
theorem lk_X5_73 : LkV RX5 73 yX5_takeLetters mi_X5_takeLetters 0 := ⟨lb_X5_takeLetters, Wt_of (tk_3 _ (List.mem_of_getElem? (i := 75) rfl)) rfl, Wt_of (tk_3 _ (List.mem_of_getElem? (i := 77) rfl)) rfl, Wt_of (tk_0 _ (List.mem_of_getElem? (i := 4) rfl)) rfl⟩
theorem lb_X10_of : LkB yX10_of mi_X10_of 1 := ⟨Wt_of (tk_3 _ (List.mem_of_getElem? (i := 103) rfl)) rfl, Wt_of (tk_1 _ (List.mem_of_getElem? (i := 13) rfl)) rfl, by decide, by decide, by decide +kernel⟩
theorem lk_X5_78 : LkS RX5 78 yX10_of mi_X10_of 1 := ⟨lb_X10_of, Wt_of (tk_3 _ (List.mem_of_getElem? (i := 101) rfl)) rfl, Wt_of (tk_3 _ (List.mem_of_getElem? (i := 102) rfl)) rfl⟩
theorem lb_X5_readPlane : LkB yX5_readPlane mi_X5_readPlane 0 := ⟨Wt_of (tk_3 _ (List.mem_of_getElem? (i := 170) rfl)) rfl, Wt_of (tk_1 _ (List.mem_of_getElem? (i := 5) rfl)) rfl, by decide, by decide, by decide +kernel⟩
theorem lk_X5_84 : LkV RX5 84 yX5_readPlane mi_X5_readPlane 0 := ⟨lb_X5_readPlane, Wt_of (tk_3 _ (List.mem_of_getElem? (i := 167) rfl)) rfl, Wt_of (tk_3 _ (List.mem_of_getElem? (i := 169) rfl)) rfl, Wt_of (tk_0 _ (List.mem_of_getElem? (i := 9) rfl)) rfl⟩
theorem lb_X5_readCraft : LkB yX5_readCraft mi_X5_readCraft 0 := ⟨Wt_of (tk_3 _ (List.mem_of_getElem? (i := 201) rfl)) rfl, Wt_of (tk_1 _ (List.mem_of_getElem? (i := 5) rfl)) rfl, by decide, by decide, by decide +kernel⟩
theorem lk_X5_89 : LkV RX5 89 yX5_readCraft mi_X5_readCraft 0 := ⟨lb_X5_readCraft, Wt_of (tk_3 _ (List.mem_of_getElem? (i := 198) rfl)) rfl, Wt_of (tk_3 _ (List.mem_of_getElem? (i := 200) rfl)) rfl, Wt_of (tk_0 _ (List.mem_of_getElem? (i := 12) rfl)) rfl⟩
theorem lb_X5_readSite : LkB yX5_readSite mi_X5_readSite 0 := ⟨Wt_of (tk_3 _ (List.mem_of_getElem? (i := 222) rfl)) rfl, Wt_of (tk_1 _ (List.mem_of_getElem? (i := 5) rfl)) rfl, by decide, by decide, by decide +kernel⟩
theorem lk_X5_94 : LkV RX5 94 yX5_readSite mi_X5_readSite 0 := ⟨lb_X5_readSite, Wt_of (tk_3 _ (List.mem_of_getElem? (i := 219) rfl)) rfl, Wt_of (tk_3 _ (List.mem_of_getElem? (i := 221) rfl)) rfl, Wt_of (tk_0 _ (List.mem_of_getElem? (i := 14) rfl)) rfl⟩
theorem lb_X5_fail : LkB yX5_fail mi_X5_fail 2 := ⟨Wt_of (tk_3 _ (List.mem_of_getElem? (i := 97) rfl)) rfl, Wt_of (tk_1 _ (List.mem_of_getElem? (i := 5) rfl)) rfl, by decide, by decide, by decide +kernel⟩
theorem lk_X5_97 : LkV RX5 97 yX5_fail mi_X5_fail 2 := ⟨lb_X5_fail, Wt_of (tk_3 _ (List.mem_of_getElem? (i := 94) rfl)) rfl, Wt_of (tk_3 _ (List.mem_of_getElem? (i := 96) rfl)) rfl, Wt_of (tk_0 _ (List.mem_of_getElem? (i := 6) rfl)) rfl⟩
theorem lb_X4_weighCells : LkB yX4_weighCells mi_X4_weighCells 0 := ⟨Wt_of (tk_3 _ (List.mem_of_getElem? (i := 229) rfl)) rfl, Wt_of (tk_1 _ (List.mem_of_getElem? (i := 3) rfl)) rfl, by decide, by decide, by decide +kernel⟩
theorem lk_X5_101 : LkV RX5 101 yX4_weighCells mi_X4_weighCells 0 := ⟨lb_X4_weighCells, Wt_of (tk_3 _ (List.mem_of_getElem? (i := 226) rfl)) rfl, Wt_of (tk_3 _ (List.mem_of_getElem? (i := 227) rfl)) rfl, Wt_of (tk_3 _ (List.mem_of_getElem? (i := 228) rfl)) rfl⟩
theorem lb_X4_findCycle : LkB yX4_findCycle mi_X4_findCycle 0 := ⟨Wt_of (tk_3 _ (List.mem_of_getElem? (i := 236) rfl)) rfl, Wt_of (tk_1 _ (List.mem_of_getElem? (i := 3) rfl)) rfl, by decide, by decide, by decide +kernel⟩
theorem lk_X5_104 : LkV RX5 104 yX4_findCycle mi_X4_findCycle 0 := ⟨lb_X4_findCycle, Wt_of (tk_3 _ (List.mem_of_getElem? (i := 233) rfl)) rfl, Wt_of (tk_3 _ (List.mem_of_getElem? (i := 234) rfl)) rfl, Wt_of (tk_3 _ (List.mem_of_getElem? (i := 235) rfl)) rfl⟩
theorem lb_X5_takeWord : LkB yX5_takeWord mi_X5_takeWord 1 := ⟨Wt_of (tk_3 _ (List.mem_of_getElem? (i := 74) rfl)) rfl, Wt_of (tk_1 _ (List.mem_of_getElem? (i := 5) rfl)) rfl, by decide, by decide, by decide +kernel⟩
theorem lk_X5_109 : LkV RX5 109 yX5_takeWord mi_X5_takeWord 1 := ⟨lb_X5_takeWord, Wt_of (tk_3 _ (List.mem_of_getElem? (i := 71) rfl)) rfl, Wt_of (tk_3 _ (List.mem_of_getElem? (i := 73) rfl)) rfl, Wt_of (tk_0 _ (List.mem_of_getElem? (i := 3) rfl)) rfl⟩
theorem lb_X5_takeNumber : LkB yX5_takeNumber mi_X5_takeNumber 2 := ⟨Wt_of (tk_3 _ (List.mem_of_getElem? (i := 156) rfl)) rfl, Wt_of (tk_1 _ (List.mem_of_getElem? (i := 5) rfl)) rfl, by decide, by decide, by decide +kernel⟩
theorem lk_X5_113 : LkV RX5 113 yX5_takeNumber mi_X5_takeNumber 2 := ⟨lb_X5_takeNumber, Wt_of (tk_3 _ (List.mem_of_getElem? (i := 153) rfl)) rfl, Wt_of (tk_3 _ (List.mem_of_getElem? (i := 155) rfl)) rfl, Wt_of (tk_0 _ (List.mem_of_getElem? (i := 7) rfl)) rfl⟩
theorem lb_X5_endStatement : LkB yX5_endStatement mi_X5_endStatement 0 := ⟨Wt_of (tk_3 _ (List.mem_of_getElem? (i := 165) rfl)) rfl, Wt_of (tk_1 _ (List.mem_of_getElem? (i := 5) rfl)) rfl, by decide, by decide, by decide +kernel⟩
theorem lk_X5_128 : LkV RX5 128 yX5_endStatement mi_X5_endStatement 0 := ⟨lb_X5_endStatement, Wt_of (tk_3 _ (List.mem_of_getElem? (i := 162) rfl)) rfl, Wt_of (tk_3 _ (List.mem_of_getElem? (i := 164) rfl)) rfl, Wt_of (tk_0 _ (List.mem_of_getElem? (i := 8) rfl)) rfl⟩
theorem lb_X5_takeName : LkB yX5_takeName mi_X5_takeName 0 := ⟨Wt_of (tk_3 _ (List.mem_of_getElem? (i := 174) rfl)) rfl, Wt_of (tk_1 _ (List.mem_of_getElem? (i := 5) rfl)) rfl, by decide, by decide, by decide +kernel⟩
theorem lk_X5_134 : LkV RX5 134 yX5_takeName mi_X5_takeName 0 := ⟨lb_X5_takeName, Wt_of (tk_3 _ (List.mem_of_getElem? (i := 171) rfl)) rfl, Wt_of (tk_3 _ (List.mem_of_getElem? (i := 173) rfl)) rfl, Wt_of (tk_0 _ (List.mem_of_getElem? (i := 10) rfl)) rfl⟩
theorem lb_X5_isNew : LkB yX5_isNew mi_X5_isNew 0 := ⟨Wt_of (tk_3 _ (List.mem_of_getElem? (i := 182) rfl)) rfl, Wt_of (tk_1 _ (List.mem_of_getElem? (i := 5) rfl)) rfl, by decide, by decide, by decide +kernel⟩
theorem lk_X5_137 : LkV RX5 137 yX5_isNew mi_X5_isNew 0 := ⟨lb_X5_isNew, Wt_of (tk_3 _ (List.mem_of_getElem? (i := 179) rfl)) rfl, Wt_of (tk_3 _ (List.mem_of_getElem? (i := 181) rfl)) rfl, Wt_of (tk_0 _ (List.mem_of_getElem? (i := 11) rfl)) rfl⟩
theorem lb_X5_findPlane : LkB yX5_findPlane mi_X5_findPlane 0 := ⟨Wt_of (tk_3 _ (List.mem_of_getElem? (i := 206) rfl)) rfl, Wt_of (tk_1 _ (List.mem_of_getElem? (i := 5) rfl)) rfl, by decide, by decide, by decide +kernel⟩
theorem lk_X5_167 : LkV RX5 167 yX5_findPlane mi_X5_findPlane 0 := ⟨lb_X5_findPlane, Wt_of (tk_3 _ (List.mem_of_getElem? (i := 203) rfl)) rfl, Wt_of (tk_3 _ (List.mem_of_getElem? (i := 205) rfl)) rfl, Wt_of (tk_0 _ (List.mem_of_getElem? (i := 13) rfl)) rfl⟩
theorem lk_X5_175 : LkV RX5 175 yX4_turnOf mi_X4_turnOf 1 := ⟨lb_X4_turnOf, Wt_of (tk_3 _ (List.mem_of_getElem? (i := 209) rfl)) rfl, Wt_of (tk_3 _ (List.mem_of_getElem? (i := 210) rfl)) rfl, Wt_of (tk_3 _ (List.mem_of_getElem? (i := 211) rfl)) rfl⟩
theorem lk_X5_187 : LkV RX5 187 yX1_turnOver mi_X1_turnOver 1 := ⟨lb_X1_turnOver, Wt_of (tk_3 _ (List.mem_of_getElem? (i := 214) rfl)) rfl, Wt_of (tk_3 _ (List.mem_of_getElem? (i := 215) rfl)) rfl, Wt_of (tk_3 _ (List.mem_of_getElem? (i := 216) rfl)) rfl⟩
theorem lk_X5_214 : LkV RX5 214 yX8_byteAt mi_X8_byteAt 1 := ⟨lb_X8_byteAt, Wt_of (tk_3 _ (List.mem_of_getElem? (i := 84) rfl)) rfl, Wt_of (tk_3 _ (List.mem_of_getElem? (i := 85) rfl)) rfl, Wt_of (tk_3 _ (List.mem_of_getElem? (i := 86) rfl)) rfl⟩
theorem lb_X4_hasName : LkB yX4_hasName mi_X4_hasName 1 := ⟨Wt_of (tk_3 _ (List.mem_of_getElem? (i := 186) rfl)) rfl, Wt_of (tk_1 _ (List.mem_of_getElem? (i := 3) rfl)) rfl, by decide, by decide, by decide +kernel⟩
theorem lk_X5_217 : LkV RX5 217 yX4_hasName mi_X4_hasName 1 := ⟨lb_X4_hasName, Wt_of (tk_3 _ (List.mem_of_getElem? (i := 183) rfl)) rfl, Wt_of (tk_3 _ (List.mem_of_getElem? (i := 184) rfl)) rfl, Wt_of (tk_3 _ (List.mem_of_getElem? (i := 185) rfl)) rfl⟩
theorem lk_X5_221 : LkV RX5 221 yX4_planeNamed mi_X4_planeNamed 1 := ⟨lb_X4_planeNamed, Wt_of (tk_3 _ (List.mem_of_getElem? (i := 207) rfl)) rfl, Wt_of (tk_3 _ (List.mem_of_getElem? (i := 188) rfl)) rfl, Wt_of (tk_3 _ (List.mem_of_getElem? (i := 189) rfl)) rfl⟩
theorem lb_X10_isOwn : LkB yX10_isOwn mi_X10_isOwn 1 := ⟨Wt_of (tk_3 _ (List.mem_of_getElem? (i := 177) rfl)) rfl, Wt_of (tk_1 _ (List.mem_of_getElem? (i := 13) rfl)) rfl, by decide, by decide, by decide +kernel⟩
theorem lk_X5_224 : LkS RX5 224 yX10_isOwn mi_X10_isOwn 1 := ⟨lb_X10_isOwn, Wt_of (tk_3 _ (List.mem_of_getElem? (i := 175) rfl)) rfl, Wt_of (tk_3 _ (List.mem_of_getElem? (i := 176) rfl)) rfl⟩
theorem lb_X5_isLetter : LkB yX5_isLetter mi_X5_isLetter 1 := ⟨Wt_of (tk_3 _ (List.mem_of_getElem? (i := 93) rfl)) rfl, Wt_of (tk_1 _ (List.mem_of_getElem? (i := 5) rfl)) rfl, by decide, by decide, by decide +kernel⟩
theorem lk_X5_227 : LkS RX5 227 yX5_isLetter mi_X5_isLetter 1 := ⟨lb_X5_isLetter, Wt_of (tk_3 _ (List.mem_of_getElem? (i := 91) rfl)) rfl, Wt_of (tk_3 _ (List.mem_of_getElem? (i := 92) rfl)) rfl⟩
theorem lb_X10_withLetter : LkB yX10_withLetter mi_X10_withLetter 3 := ⟨Wt_of (tk_3 _ (List.mem_of_getElem? (i := 100) rfl)) rfl, Wt_of (tk_1 _ (List.mem_of_getElem? (i := 13) rfl)) rfl, by decide, by decide, by decide +kernel⟩
theorem lk_X5_230 : LkS RX5 230 yX10_withLetter mi_X10_withLetter 3 := ⟨lb_X10_withLetter, Wt_of (tk_3 _ (List.mem_of_getElem? (i := 98) rfl)) rfl, Wt_of (tk_3 _ (List.mem_of_getElem? (i := 99) rfl)) rfl⟩
theorem lb_X5_isDigit : LkB yX5_isDigit mi_X5_isDigit 1 := ⟨Wt_of (tk_3 _ (List.mem_of_getElem? (i := 159) rfl)) rfl, Wt_of (tk_1 _ (List.mem_of_getElem? (i := 5) rfl)) rfl, by decide, by decide, by decide +kernel⟩
theorem lk_X5_234 : LkS RX5 234 yX5_isDigit mi_X5_isDigit 1 := ⟨lb_X5_isDigit, Wt_of (tk_3 _ (List.mem_of_getElem? (i := 157) rfl)) rfl, Wt_of (tk_3 _ (List.mem_of_getElem? (i := 158) rfl)) rfl⟩
theorem lb_X5_isBlank : LkB yX5_isBlank mi_X5_isBlank 1 := ⟨Wt_of (tk_3 _ (List.mem_of_getElem? (i := 90) rfl)) rfl, Wt_of (tk_1 _ (List.mem_of_getElem? (i := 5) rfl)) rfl, by decide, by decide, by decide +kernel⟩
theorem lk_X5_237 : LkS RX5 237 yX5_isBlank mi_X5_isBlank 1 := ⟨lb_X5_isBlank, Wt_of (tk_3 _ (List.mem_of_getElem? (i := 88) rfl)) rfl, Wt_of (tk_3 _ (List.mem_of_getElem? (i := 89) rfl)) rfl⟩
theorem lb_X6_arcOf : LkB yX6_arcOf mi_X6_arcOf 3 := ⟨Wt_of (tk_4 _ (List.mem_of_getElem? (i := 100) rfl)) rfl, Wt_of (tk_1 _ (List.mem_of_getElem? (i := 7) rfl)) rfl, by decide, by decide, by decide +kernel⟩
theorem lk_X6_71 : LkV RX6 71 yX6_arcOf mi_X6_arcOf 3 := ⟨lb_X6_arcOf, Wt_of (tk_4 _ (List.mem_of_getElem? (i := 97) rfl)) rfl, Wt_of (tk_4 _ (List.mem_of_getElem? (i := 99) rfl)) rfl, Wt_of (tk_0 _ (List.mem_of_getElem? (i := 17) rfl)) rfl⟩
theorem lk_X6_75 : Cond.methodLink RX6 75 Lib.Math.min.name ∈ Wt := Wt_of (tk_4 _ (List.mem_of_getElem? (i := 101) rfl)) rfl
theorem lb_X6_draw : LkB yX6_draw mi_X6_draw 2 := ⟨Wt_of (tk_4 _ (List.mem_of_getElem? (i := 92) rfl)) rfl, Wt_of (tk_1 _ (List.mem_of_getElem? (i := 7) rfl)) rfl, by decide, by decide, by decide +kernel⟩
theorem lk_X6_84 : LkV RX6 84 yX6_draw mi_X6_draw 2 := ⟨lb_X6_draw, Wt_of (tk_4 _ (List.mem_of_getElem? (i := 89) rfl)) rfl, Wt_of (tk_4 _ (List.mem_of_getElem? (i := 90) rfl)) rfl, Wt_of (tk_4 _ (List.mem_of_getElem? (i := 91) rfl)) rfl⟩
theorem lb_X6_makeArcs : LkB yX6_makeArcs mi_X6_makeArcs 1 := ⟨Wt_of (tk_4 _ (List.mem_of_getElem? (i := 96) rfl)) rfl, Wt_of (tk_1 _ (List.mem_of_getElem? (i := 7) rfl)) rfl, by decide, by decide, by decide +kernel⟩
theorem lk_X6_102 : LkV RX6 102 yX6_makeArcs mi_X6_makeArcs 1 := ⟨lb_X6_makeArcs, Wt_of (tk_4 _ (List.mem_of_getElem? (i := 93) rfl)) rfl, Wt_of (tk_4 _ (List.mem_of_getElem? (i := 95) rfl)) rfl, Wt_of (tk_0 _ (List.mem_of_getElem? (i := 16) rfl)) rfl⟩
theorem lb_X6_place : LkB yX6_place mi_X6_place 4 := ⟨Wt_of (tk_4 _ (List.mem_of_getElem? (i := 107) rfl)) rfl, Wt_of (tk_1 _ (List.mem_of_getElem? (i := 7) rfl)) rfl, by decide, by decide, by decide +kernel⟩
theorem lk_X6_109 : LkV RX6 109 yX6_place mi_X6_place 4 := ⟨lb_X6_place, Wt_of (tk_4 _ (List.mem_of_getElem? (i := 104) rfl)) rfl, Wt_of (tk_4 _ (List.mem_of_getElem? (i := 106) rfl)) rfl, Wt_of (tk_0 _ (List.mem_of_getElem? (i := 18) rfl)) rfl⟩
theorem lb_X6_paint : LkB yX6_paint mi_X6_paint 3 := ⟨Wt_of (tk_4 _ (List.mem_of_getElem? (i := 115) rfl)) rfl, Wt_of (tk_1 _ (List.mem_of_getElem? (i := 7) rfl)) rfl, by decide, by decide, by decide +kernel⟩
theorem lk_X6_113 : LkV RX6 113 yX6_paint mi_X6_paint 3 := ⟨lb_X6_paint, Wt_of (tk_4 _ (List.mem_of_getElem? (i := 112) rfl)) rfl, Wt_of (tk_4 _ (List.mem_of_getElem? (i := 114) rfl)) rfl, Wt_of (tk_0 _ (List.mem_of_getElem? (i := 19) rfl)) rfl⟩
theorem lk_X6_123 (E : Ev) : LkN (wCA E) RX6 123 yX11_rest mi_X11_rest 2 "OrbitDesk" := ⟨lb_X11_rest, Wt_of (tk_4 _ (List.mem_of_getElem? (i := 1) rfl)) rfl, fun s hs => hs.1 (RX6, 123, yX11_rest, "OrbitDesk") (by decide +kernel)⟩
theorem lk_X6_126 (E : Ev) : LkN (wCA E) RX6 126 yX11_cut mi_X11_cut 2 "OrbitDesk" := ⟨lb_X11_cut, Wt_of (tk_4 _ (List.mem_of_getElem? (i := 110) rfl)) rfl, fun s hs => hs.1 (RX6, 126, yX11_cut, "OrbitDesk") (by decide +kernel)⟩
theorem lk_X6_132 : Cond.methodLink RX6 132 Lib.Math.abs.name ∈ Wt := Wt_of (tk_4 _ (List.mem_of_getElem? (i := 116) rfl)) rfl
theorem lb_X6_addViews : LkB yX6_addViews mi_X6_addViews 3 := ⟨Wt_of (tk_4 _ (List.mem_of_getElem? (i := 124) rfl)) rfl, Wt_of (tk_1 _ (List.mem_of_getElem? (i := 7) rfl)) rfl, by decide, by decide, by decide +kernel⟩
theorem lk_X6_136 : LkV RX6 136 yX6_addViews mi_X6_addViews 3 := ⟨lb_X6_addViews, Wt_of (tk_4 _ (List.mem_of_getElem? (i := 121) rfl)) rfl, Wt_of (tk_4 _ (List.mem_of_getElem? (i := 123) rfl)) rfl, Wt_of (tk_0 _ (List.mem_of_getElem? (i := 20) rfl)) rfl⟩
theorem lb_X6_joinRow : LkB yX6_joinRow mi_X6_joinRow 2 := ⟨Wt_of (tk_4 _ (List.mem_of_getElem? (i := 132) rfl)) rfl, Wt_of (tk_1 _ (List.mem_of_getElem? (i := 7) rfl)) rfl, by decide, by decide, by decide +kernel⟩
theorem lk_X6_140 : LkV RX6 140 yX6_joinRow mi_X6_joinRow 2 := ⟨lb_X6_joinRow, Wt_of (tk_4 _ (List.mem_of_getElem? (i := 129) rfl)) rfl, Wt_of (tk_4 _ (List.mem_of_getElem? (i := 131) rfl)) rfl, Wt_of (tk_0 _ (List.mem_of_getElem? (i := 21) rfl)) rfl⟩
theorem lk_X6_144 : Cond.methodLink RX6 144 arraycopyName ∈ Wt := Wt_of (tk_4 _ (List.mem_of_getElem? (i := 133) rfl)) rfl
theorem lk_X6_150 : LkV RX6 150 yX6_columnOf mi_X6_columnOf 2 := ⟨lb_X6_columnOf, Wt_of (tk_5 _ (List.mem_of_getElem? (i := 198) rfl)) rfl, Wt_of (tk_4 _ (List.mem_of_getElem? (i := 178) rfl)) rfl, Wt_of (tk_4 _ (List.mem_of_getElem? (i := 179) rfl)) rfl⟩
theorem lk_X6_153 : LkV RX6 153 yX6_rowOf mi_X6_rowOf 2 := ⟨lb_X6_rowOf, Wt_of (tk_5 _ (List.mem_of_getElem? (i := 199) rfl)) rfl, Wt_of (tk_4 _ (List.mem_of_getElem? (i := 182) rfl)) rfl, Wt_of (tk_4 _ (List.mem_of_getElem? (i := 183) rfl)) rfl⟩
theorem lk_X6_156 : LkS RX6 156 yJ6_bitCount_0f7a4 mi_J6_bitCount_0f7a4 1 := ⟨lb_J6_bitCount_0f7a4, Wt_of (tk_5 _ (List.mem_of_getElem? (i := 27) rfl)) rfl, Wt_of (tk_4 _ (List.mem_of_getElem? (i := 37) rfl)) rfl⟩
theorem lk_X6_161 : LkV RX6 161 yX6_countSeen mi_X6_countSeen 1 := ⟨lb_X6_countSeen, Wt_of (tk_5 _ (List.mem_of_getElem? (i := 208) rfl)) rfl, Wt_of (tk_5 _ (List.mem_of_getElem? (i := 24) rfl)) rfl, Wt_of (tk_5 _ (List.mem_of_getElem? (i := 25) rfl)) rfl⟩
theorem lk_X6_164 : LkV RX6 164 yX6_coverAt mi_X6_coverAt 1 := ⟨lb_X6_coverAt, Wt_of (tk_5 _ (List.mem_of_getElem? (i := 49) rfl)) rfl, Wt_of (tk_5 _ (List.mem_of_getElem? (i := 33) rfl)) rfl, Wt_of (tk_5 _ (List.mem_of_getElem? (i := 34) rfl)) rfl⟩
theorem lk_X6_168 : Cond.methodLink RX6 168 Lib.Math.max.name ∈ Wt := Wt_of (tk_5 _ (List.mem_of_getElem? (i := 70) rfl)) rfl
theorem lb_X6_worstOfRow : LkB yX6_worstOfRow mi_X6_worstOfRow 1 := ⟨Wt_of (tk_5 _ (List.mem_of_getElem? (i := 61) rfl)) rfl, Wt_of (tk_1 _ (List.mem_of_getElem? (i := 7) rfl)) rfl, by decide, by decide, by decide +kernel⟩
theorem lk_X6_171 : LkV RX6 171 yX6_worstOfRow mi_X6_worstOfRow 1 := ⟨lb_X6_worstOfRow, Wt_of (tk_5 _ (List.mem_of_getElem? (i := 58) rfl)) rfl, Wt_of (tk_5 _ (List.mem_of_getElem? (i := 60) rfl)) rfl, Wt_of (tk_0 _ (List.mem_of_getElem? (i := 27) rfl)) rfl⟩
theorem lb_X6_findLastSights : LkB yX6_findLastSights mi_X6_findLastSights 1 := ⟨Wt_of (tk_5 _ (List.mem_of_getElem? (i := 65) rfl)) rfl, Wt_of (tk_1 _ (List.mem_of_getElem? (i := 7) rfl)) rfl, by decide, by decide, by decide +kernel⟩
theorem lk_X6_174 : LkV RX6 174 yX6_findLastSights mi_X6_findLastSights 1 := ⟨lb_X6_findLastSights, Wt_of (tk_5 _ (List.mem_of_getElem? (i := 62) rfl)) rfl, Wt_of (tk_5 _ (List.mem_of_getElem? (i := 64) rfl)) rfl, Wt_of (tk_0 _ (List.mem_of_getElem? (i := 28) rfl)) rfl⟩
theorem lb_J6_numberOfTrailingZeros_0f7a4 : LkB yJ6_numberOfTrailingZeros_0f7a4 mi_J6_numberOfTrailingZeros_0f7a4 1 := ⟨Wt_of (tk_5 _ (List.mem_of_getElem? (i := 68) rfl)) rfl, Wt_of (tk_1 _ (List.mem_of_getElem? (i := 20) rfl)) rfl, by decide, by decide, by decide +kernel⟩
theorem lk_X6_178 : LkS RX6 178 yJ6_numberOfTrailingZeros_0f7a4 mi_J6_numberOfTrailingZeros_0f7a4 1 := ⟨lb_J6_numberOfTrailingZeros_0f7a4, Wt_of (tk_5 _ (List.mem_of_getElem? (i := 66) rfl)) rfl, Wt_of (tk_5 _ (List.mem_of_getElem? (i := 67) rfl)) rfl⟩
theorem lk_X7_39 : LkV RX7 39 yX6_whoSees mi_X6_whoSees 4 := ⟨lb_X6_whoSees, Wt_of (tk_4 _ (List.mem_of_getElem? (i := 142) rfl)) rfl, Wt_of (tk_4 _ (List.mem_of_getElem? (i := 143) rfl)) rfl, Wt_of (tk_4 _ (List.mem_of_getElem? (i := 144) rfl)) rfl⟩
theorem lb_X7_isOf : LkB yX7_isOf mi_X7_isOf 2 := ⟨Wt_of (tk_4 _ (List.mem_of_getElem? (i := 154) rfl)) rfl, Wt_of (tk_1 _ (List.mem_of_getElem? (i := 8) rfl)) rfl, by decide, by decide, by decide +kernel⟩
theorem lk_X7_45 : LkV RX7 45 yX7_isOf mi_X7_isOf 2 := ⟨lb_X7_isOf, Wt_of (tk_4 _ (List.mem_of_getElem? (i := 151) rfl)) rfl, Wt_of (tk_4 _ (List.mem_of_getElem? (i := 153) rfl)) rfl, Wt_of (tk_0 _ (List.mem_of_getElem? (i := 23) rfl)) rfl⟩
theorem lk_X7_49 : LkV RX7 49 yX7_lengthFrom mi_X7_lengthFrom 2 := ⟨lb_X7_lengthFrom, Wt_of (tk_4 _ (List.mem_of_getElem? (i := 155) rfl)) rfl, Wt_of (tk_4 _ (List.mem_of_getElem? (i := 156) rfl)) rfl, Wt_of (tk_4 _ (List.mem_of_getElem? (i := 157) rfl)) rfl⟩
theorem lk_X7_53 (E : Ev) : LkN (wCA E) RX7 53 yX11_rest mi_X11_rest 2 "OrbitDesk" := ⟨lb_X11_rest, Wt_of (tk_4 _ (List.mem_of_getElem? (i := 1) rfl)) rfl, fun s hs => hs.1 (RX7, 53, yX11_rest, "OrbitDesk") (by decide +kernel)⟩
theorem lk_X7_56 : LkV RX7 56 yX7_begins mi_X7_begins 2 := ⟨lb_X7_begins, Wt_of (tk_4 _ (List.mem_of_getElem? (i := 214) rfl)) rfl, Wt_of (tk_4 _ (List.mem_of_getElem? (i := 148) rfl)) rfl, Wt_of (tk_4 _ (List.mem_of_getElem? (i := 149) rfl)) rfl⟩
theorem lk_X7_59 : Cond.methodLink RX7 59 Lib.Math.max.name ∈ Wt := Wt_of (tk_4 _ (List.mem_of_getElem? (i := 239) rfl)) rfl
theorem lk_X7_64 : LkS RX7 64 yJ6_bitCount_0f7a4 mi_J6_bitCount_0f7a4 1 := ⟨lb_J6_bitCount_0f7a4, Wt_of (tk_5 _ (List.mem_of_getElem? (i := 221) rfl)) rfl, Wt_of (tk_4 _ (List.mem_of_getElem? (i := 37) rfl)) rfl⟩
theorem lk_X7_70 : LkV RX7 70 yX7_depthAt mi_X7_depthAt 1 := ⟨lb_X7_depthAt, Wt_of (tk_5 _ (List.mem_of_getElem? (i := 217) rfl)) rfl, Wt_of (tk_5 _ (List.mem_of_getElem? (i := 218) rfl)) rfl, Wt_of (tk_5 _ (List.mem_of_getElem? (i := 219) rfl)) rfl⟩
theorem lk_X9_43 : LkV RX9 43 yX1_take mi_X1_take 1 := ⟨lb_X1_take, Wt_of (tk_5 _ (List.mem_of_getElem? (i := 115) rfl)) rfl, Wt_of (tk_4 _ (List.mem_of_getElem? (i := 11) rfl)) rfl, Wt_of (tk_4 _ (List.mem_of_getElem? (i := 12) rfl)) rfl⟩
theorem lb_X9_start : LkB yX9_start mi_X9_start 0 := ⟨Wt_of (tk_5 _ (List.mem_of_getElem? (i := 114) rfl)) rfl, Wt_of (tk_1 _ (List.mem_of_getElem? (i := 9) rfl)) rfl, by decide, by decide, by decide +kernel⟩
theorem lk_X9_47 : LkV RX9 47 yX9_start mi_X9_start 0 := ⟨lb_X9_start, Wt_of (tk_5 _ (List.mem_of_getElem? (i := 111) rfl)) rfl, Wt_of (tk_5 _ (List.mem_of_getElem? (i := 113) rfl)) rfl, Wt_of (tk_0 _ (List.mem_of_getElem? (i := 30) rfl)) rfl⟩
theorem lk_X9_53 : LkV RX9 53 yX6_hold mi_X6_hold 1 := ⟨lb_X6_hold, Wt_of (tk_5 _ (List.mem_of_getElem? (i := 116) rfl)) rfl, Wt_of (tk_4 _ (List.mem_of_getElem? (i := 118) rfl)) rfl, Wt_of (tk_4 _ (List.mem_of_getElem? (i := 119) rfl)) rfl⟩
theorem lk_X9_59 : LkV RX9 59 yX4_turnOf mi_X4_turnOf 1 := ⟨lb_X4_turnOf, Wt_of (tk_5 _ (List.mem_of_getElem? (i := 117) rfl)) rfl, Wt_of (tk_3 _ (List.mem_of_getElem? (i := 210) rfl)) rfl, Wt_of (tk_3 _ (List.mem_of_getElem? (i := 211) rfl)) rfl⟩
theorem lk_X9_69 : LkV RX9 69 yX6_draw mi_X6_draw 2 := ⟨lb_X6_draw, Wt_of (tk_5 _ (List.mem_of_getElem? (i := 118) rfl)) rfl, Wt_of (tk_4 _ (List.mem_of_getElem? (i := 90) rfl)) rfl, Wt_of (tk_4 _ (List.mem_of_getElem? (i := 91) rfl)) rfl⟩
theorem lk_X9_73 : LkV RX9 73 yX6_join mi_X6_join 1 := ⟨lb_X6_join, Wt_of (tk_5 _ (List.mem_of_getElem? (i := 119) rfl)) rfl, Wt_of (tk_4 _ (List.mem_of_getElem? (i := 126) rfl)) rfl, Wt_of (tk_4 _ (List.mem_of_getElem? (i := 127) rfl)) rfl⟩
theorem lb_X9_takeHigherScore : LkB yX9_takeHigherScore mi_X9_takeHigherScore 1 := ⟨Wt_of (tk_5 _ (List.mem_of_getElem? (i := 123) rfl)) rfl, Wt_of (tk_1 _ (List.mem_of_getElem? (i := 9) rfl)) rfl, by decide, by decide, by decide +kernel⟩
theorem lk_X9_76 : LkV RX9 76 yX9_takeHigherScore mi_X9_takeHigherScore 1 := ⟨lb_X9_takeHigherScore, Wt_of (tk_5 _ (List.mem_of_getElem? (i := 120) rfl)) rfl, Wt_of (tk_5 _ (List.mem_of_getElem? (i := 122) rfl)) rfl, Wt_of (tk_0 _ (List.mem_of_getElem? (i := 31) rfl)) rfl⟩
theorem lk_X9_79 : LkV RX9 79 yX4_craftIn mi_X4_craftIn 1 := ⟨lb_X4_craftIn, Wt_of (tk_5 _ (List.mem_of_getElem? (i := 133) rfl)) rfl, Wt_of (tk_4 _ (List.mem_of_getElem? (i := 66) rfl)) rfl, Wt_of (tk_4 _ (List.mem_of_getElem? (i := 67) rfl)) rfl⟩
theorem lk_X9_88 : LkV RX9 88 yX6_drawAll mi_X6_drawAll 1 := ⟨lb_X6_drawAll, Wt_of (tk_5 _ (List.mem_of_getElem? (i := 142) rfl)) rfl, Wt_of (tk_4 _ (List.mem_of_getElem? (i := 86) rfl)) rfl, Wt_of (tk_4 _ (List.mem_of_getElem? (i := 87) rfl)) rfl⟩
theorem lk_X9_94 : LkV RX9 94 yX1_spreadOut mi_X1_spreadOut 3 := ⟨lb_X1_spreadOut, Wt_of (tk_5 _ (List.mem_of_getElem? (i := 134) rfl)) rfl, Wt_of (tk_5 _ (List.mem_of_getElem? (i := 135) rfl)) rfl, Wt_of (tk_5 _ (List.mem_of_getElem? (i := 136) rfl)) rfl⟩
theorem lb_X9_takeLesserGap : LkB yX9_takeLesserGap mi_X9_takeLesserGap 1 := ⟨Wt_of (tk_5 _ (List.mem_of_getElem? (i := 146) rfl)) rfl, Wt_of (tk_1 _ (List.mem_of_getElem? (i := 9) rfl)) rfl, by decide, by decide, by decide +kernel⟩
theorem lk_X9_98 : LkV RX9 98 yX9_takeLesserGap mi_X9_takeLesserGap 1 := ⟨lb_X9_takeLesserGap, Wt_of (tk_5 _ (List.mem_of_getElem? (i := 143) rfl)) rfl, Wt_of (tk_5 _ (List.mem_of_getElem? (i := 145) rfl)) rfl, Wt_of (tk_0 _ (List.mem_of_getElem? (i := 32) rfl)) rfl⟩
theorem lk_X9_107 : LkV RX9 107 yX1_isUp mi_X1_isUp 1 := ⟨lb_X1_isUp, Wt_of (tk_5 _ (List.mem_of_getElem? (i := 156) rfl)) rfl, Wt_of (tk_4 _ (List.mem_of_getElem? (i := 74) rfl)) rfl, Wt_of (tk_4 _ (List.mem_of_getElem? (i := 75) rfl)) rfl⟩
theorem lb_X9_takeGreaterGap : LkB yX9_takeGreaterGap mi_X9_takeGreaterGap 1 := ⟨Wt_of (tk_5 _ (List.mem_of_getElem? (i := 160) rfl)) rfl, Wt_of (tk_1 _ (List.mem_of_getElem? (i := 9) rfl)) rfl, by decide, by decide, by decide +kernel⟩
theorem lk_X9_111 : LkV RX9 111 yX9_takeGreaterGap mi_X9_takeGreaterGap 1 := ⟨lb_X9_takeGreaterGap, Wt_of (tk_5 _ (List.mem_of_getElem? (i := 157) rfl)) rfl, Wt_of (tk_5 _ (List.mem_of_getElem? (i := 159) rfl)) rfl, Wt_of (tk_0 _ (List.mem_of_getElem? (i := 33) rfl)) rfl⟩
theorem lk_X9_114 : LkV RX9 114 yX6_worstGap mi_X6_worstGap 0 := ⟨lb_X6_worstGap, Wt_of (tk_5 _ (List.mem_of_getElem? (i := 147) rfl)) rfl, Wt_of (tk_5 _ (List.mem_of_getElem? (i := 55) rfl)) rfl, Wt_of (tk_5 _ (List.mem_of_getElem? (i := 56) rfl)) rfl⟩
theorem lb_X6_gapsFit : LkB yX6_gapsFit mi_X6_gapsFit 2 := ⟨Wt_of (tk_5 _ (List.mem_of_getElem? (i := 188) rfl)) rfl, Wt_of (tk_1 _ (List.mem_of_getElem? (i := 7) rfl)) rfl, by decide, by decide, by decide +kernel⟩
theorem lk_X9_118 : LkV RX9 118 yX6_gapsFit mi_X6_gapsFit 2 := ⟨lb_X6_gapsFit, Wt_of (tk_5 _ (List.mem_of_getElem? (i := 185) rfl)) rfl, Wt_of (tk_5 _ (List.mem_of_getElem? (i := 186) rfl)) rfl, Wt_of (tk_5 _ (List.mem_of_getElem? (i := 187) rfl)) rfl⟩
theorem lk_X9_122 : LkS RX9 122 yJ6_bitCount_0f7a4 mi_J6_bitCount_0f7a4 1 := ⟨lb_J6_bitCount_0f7a4, Wt_of (tk_5 _ (List.mem_of_getElem? (i := 189) rfl)) rfl, Wt_of (tk_4 _ (List.mem_of_getElem? (i := 37) rfl)) rfl⟩
theorem lk_X9_127 : LkV RX9 127 yX6_meanCover mi_X6_meanCover 0 := ⟨lb_X6_meanCover, Wt_of (tk_5 _ (List.mem_of_getElem? (i := 124) rfl)) rfl, Wt_of (tk_5 _ (List.mem_of_getElem? (i := 46) rfl)) rfl, Wt_of (tk_5 _ (List.mem_of_getElem? (i := 47) rfl)) rfl⟩
theorem lk_X10_9 : Cond.methodLink RX10 9 yJ0_length_8abf5 ∈ Wt := Wt_of (tk_3 _ (List.mem_of_getElem? (i := 104) rfl)) rfl
theorem lk_X10_15 : Cond.methodLink RX10 15 yJ0_charAt_5068e ∈ Wt := Wt_of (tk_3 _ (List.mem_of_getElem? (i := 114) rfl)) rfl
theorem lk_X10_19 : LkS RX10 19 yX10_withLetter mi_X10_withLetter 3 := ⟨lb_X10_withLetter, Wt_of (tk_3 _ (List.mem_of_getElem? (i := 152) rfl)) rfl, Wt_of (tk_3 _ (List.mem_of_getElem? (i := 99) rfl)) rfl⟩
theorem lb_X12_refuses : LkB yX12_refuses mi_X12_refuses 1 := ⟨Wt_of (tk_7 _ (List.mem_of_getElem? (i := 142) rfl)) rfl, Wt_of (tk_1 _ (List.mem_of_getElem? (i := 12) rfl)) rfl, by decide, by decide, by decide +kernel⟩
theorem lk_X12_209 : LkV RX12 209 yX12_refuses mi_X12_refuses 1 := ⟨lb_X12_refuses, Wt_of (tk_7 _ (List.mem_of_getElem? (i := 139) rfl)) rfl, Wt_of (tk_7 _ (List.mem_of_getElem? (i := 141) rfl)) rfl, Wt_of (tk_0 _ (List.mem_of_getElem? (i := 41) rfl)) rfl⟩
theorem lb_X12_lays : LkB yX12_lays mi_X12_lays 1 := ⟨Wt_of (tk_7 _ (List.mem_of_getElem? (i := 146) rfl)) rfl, Wt_of (tk_1 _ (List.mem_of_getElem? (i := 12) rfl)) rfl, by decide, by decide, by decide +kernel⟩
theorem lk_X12_213 : LkV RX12 213 yX12_lays mi_X12_lays 1 := ⟨lb_X12_lays, Wt_of (tk_7 _ (List.mem_of_getElem? (i := 143) rfl)) rfl, Wt_of (tk_7 _ (List.mem_of_getElem? (i := 145) rfl)) rfl, Wt_of (tk_0 _ (List.mem_of_getElem? (i := 42) rfl)) rfl⟩
theorem lb_X12_isRefused : LkB yX12_isRefused mi_X12_isRefused 1 := ⟨Wt_of (tk_7 _ (List.mem_of_getElem? (i := 154) rfl)) rfl, Wt_of (tk_1 _ (List.mem_of_getElem? (i := 12) rfl)) rfl, by decide, by decide, by decide +kernel⟩
theorem lk_X12_217 : LkV RX12 217 yX12_isRefused mi_X12_isRefused 1 := ⟨lb_X12_isRefused, Wt_of (tk_7 _ (List.mem_of_getElem? (i := 151) rfl)) rfl, Wt_of (tk_7 _ (List.mem_of_getElem? (i := 153) rfl)) rfl, Wt_of (tk_0 _ (List.mem_of_getElem? (i := 43) rfl)) rfl⟩
theorem lb_X12_byteAt : LkB yX12_byteAt mi_X12_byteAt 1 := ⟨Wt_of (tk_7 _ (List.mem_of_getElem? (i := 190) rfl)) rfl, Wt_of (tk_1 _ (List.mem_of_getElem? (i := 12) rfl)) rfl, by decide, by decide, by decide +kernel⟩
theorem lk_X12_221 : LkV RX12 221 yX12_byteAt mi_X12_byteAt 1 := ⟨lb_X12_byteAt, Wt_of (tk_7 _ (List.mem_of_getElem? (i := 187) rfl)) rfl, Wt_of (tk_7 _ (List.mem_of_getElem? (i := 189) rfl)) rfl, Wt_of (tk_0 _ (List.mem_of_getElem? (i := 51) rfl)) rfl⟩
theorem lb_X12_goes : LkB yX12_goes mi_X12_goes 0 := ⟨Wt_of (tk_7 _ (List.mem_of_getElem? (i := 182) rfl)) rfl, Wt_of (tk_1 _ (List.mem_of_getElem? (i := 12) rfl)) rfl, by decide, by decide, by decide +kernel⟩
theorem lk_X12_224 : LkV RX12 224 yX12_goes mi_X12_goes 0 := ⟨lb_X12_goes, Wt_of (tk_7 _ (List.mem_of_getElem? (i := 179) rfl)) rfl, Wt_of (tk_7 _ (List.mem_of_getElem? (i := 181) rfl)) rfl, Wt_of (tk_0 _ (List.mem_of_getElem? (i := 49) rfl)) rfl⟩
theorem lb_X12_here : LkB yX12_here mi_X12_here 0 := ⟨Wt_of (tk_7 _ (List.mem_of_getElem? (i := 186) rfl)) rfl, Wt_of (tk_1 _ (List.mem_of_getElem? (i := 12) rfl)) rfl, by decide, by decide, by decide +kernel⟩
theorem lk_X12_228 : LkV RX12 228 yX12_here mi_X12_here 0 := ⟨lb_X12_here, Wt_of (tk_7 _ (List.mem_of_getElem? (i := 183) rfl)) rfl, Wt_of (tk_7 _ (List.mem_of_getElem? (i := 185) rfl)) rfl, Wt_of (tk_0 _ (List.mem_of_getElem? (i := 50) rfl)) rfl⟩
theorem lb_X12_isSmall : LkB yX12_isSmall mi_X12_isSmall 1 := ⟨Wt_of (tk_7 _ (List.mem_of_getElem? (i := 194) rfl)) rfl, Wt_of (tk_1 _ (List.mem_of_getElem? (i := 12) rfl)) rfl, by decide, by decide, by decide +kernel⟩
theorem lk_X12_232 : LkV RX12 232 yX12_isSmall mi_X12_isSmall 1 := ⟨lb_X12_isSmall, Wt_of (tk_7 _ (List.mem_of_getElem? (i := 191) rfl)) rfl, Wt_of (tk_7 _ (List.mem_of_getElem? (i := 193) rfl)) rfl, Wt_of (tk_0 _ (List.mem_of_getElem? (i := 52) rfl)) rfl⟩
theorem lb_X12_isDigit : LkB yX12_isDigit mi_X12_isDigit 1 := ⟨Wt_of (tk_7 _ (List.mem_of_getElem? (i := 198) rfl)) rfl, Wt_of (tk_1 _ (List.mem_of_getElem? (i := 12) rfl)) rfl, by decide, by decide, by decide +kernel⟩
theorem lk_X12_235 : LkV RX12 235 yX12_isDigit mi_X12_isDigit 1 := ⟨lb_X12_isDigit, Wt_of (tk_7 _ (List.mem_of_getElem? (i := 195) rfl)) rfl, Wt_of (tk_7 _ (List.mem_of_getElem? (i := 197) rfl)) rfl, Wt_of (tk_0 _ (List.mem_of_getElem? (i := 53) rfl)) rfl⟩
theorem lb_X12_fails : LkB yX12_fails mi_X12_fails 2 := ⟨Wt_of (tk_7 _ (List.mem_of_getElem? (i := 202) rfl)) rfl, Wt_of (tk_1 _ (List.mem_of_getElem? (i := 12) rfl)) rfl, by decide, by decide, by decide +kernel⟩
theorem lk_X12_238 : LkV RX12 238 yX12_fails mi_X12_fails 2 := ⟨lb_X12_fails, Wt_of (tk_7 _ (List.mem_of_getElem? (i := 199) rfl)) rfl, Wt_of (tk_7 _ (List.mem_of_getElem? (i := 201) rfl)) rfl, Wt_of (tk_0 _ (List.mem_of_getElem? (i := 54) rfl)) rfl⟩
theorem lb_X12_word : LkB yX12_word mi_X12_word 0 := ⟨Wt_of (tk_7 _ (List.mem_of_getElem? (i := 178) rfl)) rfl, Wt_of (tk_1 _ (List.mem_of_getElem? (i := 12) rfl)) rfl, by decide, by decide, by decide +kernel⟩
theorem lk_X12_242 : LkV RX12 242 yX12_word mi_X12_word 0 := ⟨lb_X12_word, Wt_of (tk_7 _ (List.mem_of_getElem? (i := 175) rfl)) rfl, Wt_of (tk_7 _ (List.mem_of_getElem? (i := 177) rfl)) rfl, Wt_of (tk_0 _ (List.mem_of_getElem? (i := 48) rfl)) rfl⟩
theorem lb_X12_own : LkB yX12_own mi_X12_own 0 := ⟨Wt_of (tk_7 _ (List.mem_of_getElem? (i := 206) rfl)) rfl, Wt_of (tk_1 _ (List.mem_of_getElem? (i := 12) rfl)) rfl, by decide, by decide, by decide +kernel⟩
theorem lk_X12_245 : LkV RX12 245 yX12_own mi_X12_own 0 := ⟨lb_X12_own, Wt_of (tk_7 _ (List.mem_of_getElem? (i := 203) rfl)) rfl, Wt_of (tk_7 _ (List.mem_of_getElem? (i := 205) rfl)) rfl, Wt_of (tk_0 _ (List.mem_of_getElem? (i := 55) rfl)) rfl⟩
theorem lb_X12_isIn : LkB yX12_isIn mi_X12_isIn 3 := ⟨Wt_of (tk_7 _ (List.mem_of_getElem? (i := 213) rfl)) rfl, Wt_of (tk_1 _ (List.mem_of_getElem? (i := 12) rfl)) rfl, by decide, by decide, by decide +kernel⟩
theorem lk_X12_248 : LkS RX12 248 yX12_isIn mi_X12_isIn 3 := ⟨lb_X12_isIn, Wt_of (tk_7 _ (List.mem_of_getElem? (i := 211) rfl)) rfl, Wt_of (tk_7 _ (List.mem_of_getElem? (i := 212) rfl)) rfl⟩
theorem lb_X12_must : LkB yX12_must mi_X12_must 1 := ⟨Wt_of (tk_7 _ (List.mem_of_getElem? (i := 174) rfl)) rfl, Wt_of (tk_1 _ (List.mem_of_getElem? (i := 12) rfl)) rfl, by decide, by decide, by decide +kernel⟩
theorem lk_X12_252 : LkV RX12 252 yX12_must mi_X12_must 1 := ⟨lb_X12_must, Wt_of (tk_7 _ (List.mem_of_getElem? (i := 171) rfl)) rfl, Wt_of (tk_7 _ (List.mem_of_getElem? (i := 173) rfl)) rfl, Wt_of (tk_0 _ (List.mem_of_getElem? (i := 47) rfl)) rfl⟩
theorem lb_X12_number : LkB yX12_number mi_X12_number 2 := ⟨Wt_of (tk_7 _ (List.mem_of_getElem? (i := 210) rfl)) rfl, Wt_of (tk_1 _ (List.mem_of_getElem? (i := 12) rfl)) rfl, by decide, by decide, by decide +kernel⟩
theorem lk_X12_255 : LkV RX12 255 yX12_number mi_X12_number 2 := ⟨lb_X12_number, Wt_of (tk_7 _ (List.mem_of_getElem? (i := 207) rfl)) rfl, Wt_of (tk_7 _ (List.mem_of_getElem? (i := 209) rfl)) rfl, Wt_of (tk_0 _ (List.mem_of_getElem? (i := 56) rfl)) rfl⟩
theorem lb_X12_isName : LkB yX12_isName mi_X12_isName 1 := ⟨Wt_of (tk_7 _ (List.mem_of_getElem? (i := 237) rfl)) rfl, Wt_of (tk_1 _ (List.mem_of_getElem? (i := 12) rfl)) rfl, by decide, by decide, by decide +kernel⟩
theorem lk_X12_259 : LkV RX12 259 yX12_isName mi_X12_isName 1 := ⟨lb_X12_isName, Wt_of (tk_7 _ (List.mem_of_getElem? (i := 234) rfl)) rfl, Wt_of (tk_7 _ (List.mem_of_getElem? (i := 236) rfl)) rfl, Wt_of (tk_0 _ (List.mem_of_getElem? (i := 62) rfl)) rfl⟩
theorem lb_X12_name : LkB yX12_name mi_X12_name 0 := ⟨Wt_of (tk_7 _ (List.mem_of_getElem? (i := 229) rfl)) rfl, Wt_of (tk_1 _ (List.mem_of_getElem? (i := 12) rfl)) rfl, by decide, by decide, by decide +kernel⟩
theorem lk_X12_262 : LkV RX12 262 yX12_name mi_X12_name 0 := ⟨lb_X12_name, Wt_of (tk_7 _ (List.mem_of_getElem? (i := 226) rfl)) rfl, Wt_of (tk_7 _ (List.mem_of_getElem? (i := 228) rfl)) rfl, Wt_of (tk_0 _ (List.mem_of_getElem? (i := 60) rfl)) rfl⟩
theorem lb_X12_nameIn : LkB yX12_nameIn mi_X12_nameIn 2 := ⟨Wt_of (tk_7 _ (List.mem_of_getElem? (i := 233) rfl)) rfl, Wt_of (tk_1 _ (List.mem_of_getElem? (i := 12) rfl)) rfl, by decide, by decide, by decide +kernel⟩
theorem lk_X12_265 : LkV RX12 265 yX12_nameIn mi_X12_nameIn 2 := ⟨lb_X12_nameIn, Wt_of (tk_7 _ (List.mem_of_getElem? (i := 230) rfl)) rfl, Wt_of (tk_7 _ (List.mem_of_getElem? (i := 232) rfl)) rfl, Wt_of (tk_0 _ (List.mem_of_getElem? (i := 61) rfl)) rfl⟩
theorem lb_X12_freshName : LkB yX12_freshName mi_X12_freshName 1 := ⟨Wt_of (tk_7 _ (List.mem_of_getElem? (i := 225) rfl)) rfl, Wt_of (tk_1 _ (List.mem_of_getElem? (i := 12) rfl)) rfl, by decide, by decide, by decide +kernel⟩
theorem lk_X12_268 : LkV RX12 268 yX12_freshName mi_X12_freshName 1 := ⟨lb_X12_freshName, Wt_of (tk_7 _ (List.mem_of_getElem? (i := 222) rfl)) rfl, Wt_of (tk_7 _ (List.mem_of_getElem? (i := 224) rfl)) rfl, Wt_of (tk_0 _ (List.mem_of_getElem? (i := 59) rfl)) rfl⟩
theorem lb_X12_told : LkB yX12_told mi_X12_told 3 := ⟨Wt_of (tk_7 _ (List.mem_of_getElem? (i := 170) rfl)) rfl, Wt_of (tk_1 _ (List.mem_of_getElem? (i := 12) rfl)) rfl, by decide, by decide, by decide +kernel⟩
theorem lk_X12_271 : LkV RX12 271 yX12_told mi_X12_told 3 := ⟨lb_X12_told, Wt_of (tk_7 _ (List.mem_of_getElem? (i := 167) rfl)) rfl, Wt_of (tk_7 _ (List.mem_of_getElem? (i := 169) rfl)) rfl, Wt_of (tk_0 _ (List.mem_of_getElem? (i := 46) rfl)) rfl⟩
theorem lb_X12_common : LkB yX12_common mi_X12_common 2 := ⟨Wt_of (tk_8 _ (List.mem_of_getElem? (i := 12) rfl)) rfl, Wt_of (tk_1 _ (List.mem_of_getElem? (i := 12) rfl)) rfl, by decide, by decide, by decide +kernel⟩
theorem lk_X12_275 : LkS RX12 275 yX12_common mi_X12_common 2 := ⟨lb_X12_common, Wt_of (tk_8 _ (List.mem_of_getElem? (i := 10) rfl)) rfl, Wt_of (tk_8 _ (List.mem_of_getElem? (i := 11) rfl)) rfl⟩
theorem lb_X12_endsWell : LkB yX12_endsWell mi_X12_endsWell 0 := ⟨Wt_of (tk_7 _ (List.mem_of_getElem? (i := 217) rfl)) rfl, Wt_of (tk_1 _ (List.mem_of_getElem? (i := 12) rfl)) rfl, by decide, by decide, by decide +kernel⟩
theorem lk_X12_278 : LkV RX12 278 yX12_endsWell mi_X12_endsWell 0 := ⟨lb_X12_endsWell, Wt_of (tk_7 _ (List.mem_of_getElem? (i := 214) rfl)) rfl, Wt_of (tk_7 _ (List.mem_of_getElem? (i := 216) rfl)) rfl, Wt_of (tk_0 _ (List.mem_of_getElem? (i := 57) rfl)) rfl⟩
theorem lb_X12_readsPlane : LkB yX12_readsPlane mi_X12_readsPlane 0 := ⟨Wt_of (tk_7 _ (List.mem_of_getElem? (i := 221) rfl)) rfl, Wt_of (tk_1 _ (List.mem_of_getElem? (i := 12) rfl)) rfl, by decide, by decide, by decide +kernel⟩
theorem lk_X12_281 : LkV RX12 281 yX12_readsPlane mi_X12_readsPlane 0 := ⟨lb_X12_readsPlane, Wt_of (tk_7 _ (List.mem_of_getElem? (i := 218) rfl)) rfl, Wt_of (tk_7 _ (List.mem_of_getElem? (i := 220) rfl)) rfl, Wt_of (tk_0 _ (List.mem_of_getElem? (i := 58) rfl)) rfl⟩
theorem lb_X12_readsCraft : LkB yX12_readsCraft mi_X12_readsCraft 0 := ⟨Wt_of (tk_8 _ (List.mem_of_getElem? (i := 1) rfl)) rfl, Wt_of (tk_1 _ (List.mem_of_getElem? (i := 12) rfl)) rfl, by decide, by decide, by decide +kernel⟩
theorem lk_X12_284 : LkV RX12 284 yX12_readsCraft mi_X12_readsCraft 0 := ⟨lb_X12_readsCraft, Wt_of (tk_7 _ (List.mem_of_getElem? (i := 238) rfl)) rfl, Wt_of (tk_8 _ (List.mem_of_getElem? (i := 0) rfl)) rfl, Wt_of (tk_0 _ (List.mem_of_getElem? (i := 63) rfl)) rfl⟩
theorem lb_X12_readsSite : LkB yX12_readsSite mi_X12_readsSite 0 := ⟨Wt_of (tk_8 _ (List.mem_of_getElem? (i := 5) rfl)) rfl, Wt_of (tk_1 _ (List.mem_of_getElem? (i := 12) rfl)) rfl, by decide, by decide, by decide +kernel⟩
theorem lk_X12_287 : LkV RX12 287 yX12_readsSite mi_X12_readsSite 0 := ⟨lb_X12_readsSite, Wt_of (tk_8 _ (List.mem_of_getElem? (i := 2) rfl)) rfl, Wt_of (tk_8 _ (List.mem_of_getElem? (i := 4) rfl)) rfl, Wt_of (tk_0 _ (List.mem_of_getElem? (i := 64) rfl)) rfl⟩
theorem lb_X12_readCycle : LkB yX12_readCycle mi_X12_readCycle 0 := ⟨Wt_of (tk_8 _ (List.mem_of_getElem? (i := 9) rfl)) rfl, Wt_of (tk_1 _ (List.mem_of_getElem? (i := 12) rfl)) rfl, by decide, by decide, by decide +kernel⟩
theorem lk_X12_290 : LkV RX12 290 yX12_readCycle mi_X12_readCycle 0 := ⟨lb_X12_readCycle, Wt_of (tk_8 _ (List.mem_of_getElem? (i := 6) rfl)) rfl, Wt_of (tk_8 _ (List.mem_of_getElem? (i := 8) rfl)) rfl, Wt_of (tk_0 _ (List.mem_of_getElem? (i := 65) rfl)) rfl⟩
theorem lb_X12_widthOf : LkB yX12_widthOf mi_X12_widthOf 1 := ⟨Wt_of (tk_8 _ (List.mem_of_getElem? (i := 20) rfl)) rfl, Wt_of (tk_1 _ (List.mem_of_getElem? (i := 12) rfl)) rfl, by decide, by decide, by decide +kernel⟩
theorem lk_X12_293 : LkV RX12 293 yX12_widthOf mi_X12_widthOf 1 := ⟨lb_X12_widthOf, Wt_of (tk_8 _ (List.mem_of_getElem? (i := 17) rfl)) rfl, Wt_of (tk_8 _ (List.mem_of_getElem? (i := 19) rfl)) rfl, Wt_of (tk_0 _ (List.mem_of_getElem? (i := 67) rfl)) rfl⟩
theorem lb_X12_taken : LkB yX12_taken mi_X12_taken 0 := ⟨Wt_of (tk_7 _ (List.mem_of_getElem? (i := 162) rfl)) rfl, Wt_of (tk_1 _ (List.mem_of_getElem? (i := 12) rfl)) rfl, by decide, by decide, by decide +kernel⟩
theorem lk_X12_296 : LkV RX12 296 yX12_taken mi_X12_taken 0 := ⟨lb_X12_taken, Wt_of (tk_7 _ (List.mem_of_getElem? (i := 159) rfl)) rfl, Wt_of (tk_7 _ (List.mem_of_getElem? (i := 161) rfl)) rfl, Wt_of (tk_0 _ (List.mem_of_getElem? (i := 44) rfl)) rfl⟩
theorem lb_X12_readsAll : LkB yX12_readsAll mi_X12_readsAll 0 := ⟨Wt_of (tk_7 _ (List.mem_of_getElem? (i := 166) rfl)) rfl, Wt_of (tk_1 _ (List.mem_of_getElem? (i := 12) rfl)) rfl, by decide, by decide, by decide +kernel⟩
theorem lk_X12_299 : LkV RX12 299 yX12_readsAll mi_X12_readsAll 0 := ⟨lb_X12_readsAll, Wt_of (tk_7 _ (List.mem_of_getElem? (i := 163) rfl)) rfl, Wt_of (tk_7 _ (List.mem_of_getElem? (i := 165) rfl)) rfl, Wt_of (tk_0 _ (List.mem_of_getElem? (i := 45) rfl)) rfl⟩
theorem lb_X12_tellsAll : LkB yX12_tellsAll mi_X12_tellsAll 0 := ⟨Wt_of (tk_8 _ (List.mem_of_getElem? (i := 16) rfl)) rfl, Wt_of (tk_1 _ (List.mem_of_getElem? (i := 12) rfl)) rfl, by decide, by decide, by decide +kernel⟩
theorem lk_X12_302 : LkV RX12 302 yX12_tellsAll mi_X12_tellsAll 0 := ⟨lb_X12_tellsAll, Wt_of (tk_8 _ (List.mem_of_getElem? (i := 13) rfl)) rfl, Wt_of (tk_8 _ (List.mem_of_getElem? (i := 15) rfl)) rfl, Wt_of (tk_0 _ (List.mem_of_getElem? (i := 66) rfl)) rfl⟩
theorem lb_X12_turnOf : LkB yX12_turnOf mi_X12_turnOf 1 := ⟨Wt_of (tk_8 _ (List.mem_of_getElem? (i := 83) rfl)) rfl, Wt_of (tk_1 _ (List.mem_of_getElem? (i := 12) rfl)) rfl, by decide, by decide, by decide +kernel⟩
theorem lk_X12_305 : LkV RX12 305 yX12_turnOf mi_X12_turnOf 1 := ⟨lb_X12_turnOf, Wt_of (tk_8 _ (List.mem_of_getElem? (i := 80) rfl)) rfl, Wt_of (tk_8 _ (List.mem_of_getElem? (i := 82) rfl)) rfl, Wt_of (tk_0 _ (List.mem_of_getElem? (i := 76) rfl)) rfl⟩
theorem lb_X12_gone : LkB yX12_gone mi_X12_gone 2 := ⟨Wt_of (tk_8 _ (List.mem_of_getElem? (i := 79) rfl)) rfl, Wt_of (tk_1 _ (List.mem_of_getElem? (i := 12) rfl)) rfl, by decide, by decide, by decide +kernel⟩
theorem lk_X12_308 : LkV RX12 308 yX12_gone mi_X12_gone 2 := ⟨lb_X12_gone, Wt_of (tk_8 _ (List.mem_of_getElem? (i := 76) rfl)) rfl, Wt_of (tk_8 _ (List.mem_of_getElem? (i := 78) rfl)) rfl, Wt_of (tk_0 _ (List.mem_of_getElem? (i := 75) rfl)) rfl⟩
theorem lb_X12_away : LkB yX12_away mi_X12_away 2 := ⟨Wt_of (tk_8 _ (List.mem_of_getElem? (i := 23) rfl)) rfl, Wt_of (tk_1 _ (List.mem_of_getElem? (i := 12) rfl)) rfl, by decide, by decide, by decide +kernel⟩
theorem lk_X12_311 : LkS RX12 311 yX12_away mi_X12_away 2 := ⟨lb_X12_away, Wt_of (tk_8 _ (List.mem_of_getElem? (i := 21) rfl)) rfl, Wt_of (tk_8 _ (List.mem_of_getElem? (i := 22) rfl)) rfl⟩
theorem lb_X12_columnAt : LkB yX12_columnAt mi_X12_columnAt 2 := ⟨Wt_of (tk_8 _ (List.mem_of_getElem? (i := 75) rfl)) rfl, Wt_of (tk_1 _ (List.mem_of_getElem? (i := 12) rfl)) rfl, by decide, by decide, by decide +kernel⟩
theorem lk_X12_314 : LkV RX12 314 yX12_columnAt mi_X12_columnAt 2 := ⟨lb_X12_columnAt, Wt_of (tk_8 _ (List.mem_of_getElem? (i := 72) rfl)) rfl, Wt_of (tk_8 _ (List.mem_of_getElem? (i := 74) rfl)) rfl, Wt_of (tk_0 _ (List.mem_of_getElem? (i := 74) rfl)) rfl⟩
theorem lb_X12_rowAt : LkB yX12_rowAt mi_X12_rowAt 2 := ⟨Wt_of (tk_8 _ (List.mem_of_getElem? (i := 87) rfl)) rfl, Wt_of (tk_1 _ (List.mem_of_getElem? (i := 12) rfl)) rfl, by decide, by decide, by decide +kernel⟩
theorem lk_X12_317 : LkV RX12 317 yX12_rowAt mi_X12_rowAt 2 := ⟨lb_X12_rowAt, Wt_of (tk_8 _ (List.mem_of_getElem? (i := 84) rfl)) rfl, Wt_of (tk_8 _ (List.mem_of_getElem? (i := 86) rfl)) rfl, Wt_of (tk_0 _ (List.mem_of_getElem? (i := 77) rfl)) rfl⟩
theorem lb_X12_reaches : LkB yX12_reaches mi_X12_reaches 5 := ⟨Wt_of (tk_8 _ (List.mem_of_getElem? (i := 91) rfl)) rfl, Wt_of (tk_1 _ (List.mem_of_getElem? (i := 12) rfl)) rfl, by decide, by decide, by decide +kernel⟩
theorem lk_X12_320 : LkV RX12 320 yX12_reaches mi_X12_reaches 5 := ⟨lb_X12_reaches, Wt_of (tk_8 _ (List.mem_of_getElem? (i := 88) rfl)) rfl, Wt_of (tk_8 _ (List.mem_of_getElem? (i := 90) rfl)) rfl, Wt_of (tk_0 _ (List.mem_of_getElem? (i := 78) rfl)) rfl⟩
theorem lb_X12_laysOne : LkB yX12_laysOne mi_X12_laysOne 1 := ⟨Wt_of (tk_8 _ (List.mem_of_getElem? (i := 71) rfl)) rfl, Wt_of (tk_1 _ (List.mem_of_getElem? (i := 12) rfl)) rfl, by decide, by decide, by decide +kernel⟩
theorem lk_X12_324 : LkV RX12 324 yX12_laysOne mi_X12_laysOne 1 := ⟨lb_X12_laysOne, Wt_of (tk_8 _ (List.mem_of_getElem? (i := 68) rfl)) rfl, Wt_of (tk_8 _ (List.mem_of_getElem? (i := 70) rfl)) rfl, Wt_of (tk_0 _ (List.mem_of_getElem? (i := 73) rfl)) rfl⟩
theorem lb_X12_isBy : LkB yX12_isBy mi_X12_isBy 3 := ⟨Wt_of (tk_8 _ (List.mem_of_getElem? (i := 103) rfl)) rfl, Wt_of (tk_1 _ (List.mem_of_getElem? (i := 12) rfl)) rfl, by decide, by decide, by decide +kernel⟩
theorem lk_X12_327 : LkV RX12 327 yX12_isBy mi_X12_isBy 3 := ⟨lb_X12_isBy, Wt_of (tk_8 _ (List.mem_of_getElem? (i := 100) rfl)) rfl, Wt_of (tk_8 _ (List.mem_of_getElem? (i := 102) rfl)) rfl, Wt_of (tk_0 _ (List.mem_of_getElem? (i := 81) rfl)) rfl⟩
theorem lb_X12_laysStretches : LkB yX12_laysStretches mi_X12_laysStretches 3 := ⟨Wt_of (tk_8 _ (List.mem_of_getElem? (i := 99) rfl)) rfl, Wt_of (tk_1 _ (List.mem_of_getElem? (i := 12) rfl)) rfl, by decide, by decide, by decide +kernel⟩
theorem lk_X12_330 : LkV RX12 330 yX12_laysStretches mi_X12_laysStretches 3 := ⟨lb_X12_laysStretches, Wt_of (tk_8 _ (List.mem_of_getElem? (i := 96) rfl)) rfl, Wt_of (tk_8 _ (List.mem_of_getElem? (i := 98) rfl)) rfl, Wt_of (tk_0 _ (List.mem_of_getElem? (i := 80) rfl)) rfl⟩
theorem lb_X12_greater : LkB yX12_greater mi_X12_greater 2 := ⟨Wt_of (tk_8 _ (List.mem_of_getElem? (i := 164) rfl)) rfl, Wt_of (tk_1 _ (List.mem_of_getElem? (i := 12) rfl)) rfl, by decide, by decide, by decide +kernel⟩
theorem lk_X12_334 : LkS RX12 334 yX12_greater mi_X12_greater 2 := ⟨lb_X12_greater, Wt_of (tk_8 _ (List.mem_of_getElem? (i := 162) rfl)) rfl, Wt_of (tk_8 _ (List.mem_of_getElem? (i := 163) rfl)) rfl⟩
theorem lb_X12_greatestOf : LkB yX12_greatestOf mi_X12_greatestOf 2 := ⟨Wt_of (tk_8 _ (List.mem_of_getElem? (i := 161) rfl)) rfl, Wt_of (tk_1 _ (List.mem_of_getElem? (i := 12) rfl)) rfl, by decide, by decide, by decide +kernel⟩
theorem lk_X12_337 : LkV RX12 337 yX12_greatestOf mi_X12_greatestOf 2 := ⟨lb_X12_greatestOf, Wt_of (tk_8 _ (List.mem_of_getElem? (i := 158) rfl)) rfl, Wt_of (tk_8 _ (List.mem_of_getElem? (i := 160) rfl)) rfl, Wt_of (tk_0 _ (List.mem_of_getElem? (i := 85) rfl)) rfl⟩
theorem lb_X12_coverBy : LkB yX12_coverBy mi_X12_coverBy 2 := ⟨Wt_of (tk_8 _ (List.mem_of_getElem? (i := 195) rfl)) rfl, Wt_of (tk_1 _ (List.mem_of_getElem? (i := 12) rfl)) rfl, by decide, by decide, by decide +kernel⟩
theorem lk_X12_340 : LkV RX12 340 yX12_coverBy mi_X12_coverBy 2 := ⟨lb_X12_coverBy, Wt_of (tk_8 _ (List.mem_of_getElem? (i := 192) rfl)) rfl, Wt_of (tk_8 _ (List.mem_of_getElem? (i := 194) rfl)) rfl, Wt_of (tk_0 _ (List.mem_of_getElem? (i := 87) rfl)) rfl⟩
theorem lb_X12_upMany : LkB yX12_upMany mi_X12_upMany 1 := ⟨Wt_of (tk_8 _ (List.mem_of_getElem? (i := 35) rfl)) rfl, Wt_of (tk_1 _ (List.mem_of_getElem? (i := 12) rfl)) rfl, by decide, by decide, by decide +kernel⟩
theorem lk_X12_344 : LkV RX12 344 yX12_upMany mi_X12_upMany 1 := ⟨lb_X12_upMany, Wt_of (tk_8 _ (List.mem_of_getElem? (i := 32) rfl)) rfl, Wt_of (tk_8 _ (List.mem_of_getElem? (i := 34) rfl)) rfl, Wt_of (tk_0 _ (List.mem_of_getElem? (i := 68) rfl)) rfl⟩
theorem lb_X12_isPlane : LkB yX12_isPlane mi_X12_isPlane 1 := ⟨Wt_of (tk_8 _ (List.mem_of_getElem? (i := 47) rfl)) rfl, Wt_of (tk_1 _ (List.mem_of_getElem? (i := 12) rfl)) rfl, by decide, by decide, by decide +kernel⟩
theorem lk_X12_347 : LkV RX12 347 yX12_isPlane mi_X12_isPlane 1 := ⟨lb_X12_isPlane, Wt_of (tk_8 _ (List.mem_of_getElem? (i := 44) rfl)) rfl, Wt_of (tk_8 _ (List.mem_of_getElem? (i := 46) rfl)) rfl, Wt_of (tk_0 _ (List.mem_of_getElem? (i := 69) rfl)) rfl⟩
theorem lb_X12_isCraft : LkB yX12_isCraft mi_X12_isCraft 1 := ⟨Wt_of (tk_8 _ (List.mem_of_getElem? (i := 55) rfl)) rfl, Wt_of (tk_1 _ (List.mem_of_getElem? (i := 12) rfl)) rfl, by decide, by decide, by decide +kernel⟩
theorem lk_X12_350 : LkV RX12 350 yX12_isCraft mi_X12_isCraft 1 := ⟨lb_X12_isCraft, Wt_of (tk_8 _ (List.mem_of_getElem? (i := 52) rfl)) rfl, Wt_of (tk_8 _ (List.mem_of_getElem? (i := 54) rfl)) rfl, Wt_of (tk_0 _ (List.mem_of_getElem? (i := 70) rfl)) rfl⟩
theorem lb_X12_isSite : LkB yX12_isSite mi_X12_isSite 1 := ⟨Wt_of (tk_8 _ (List.mem_of_getElem? (i := 63) rfl)) rfl, Wt_of (tk_1 _ (List.mem_of_getElem? (i := 12) rfl)) rfl, by decide, by decide, by decide +kernel⟩
theorem lk_X12_353 : LkV RX12 353 yX12_isSite mi_X12_isSite 1 := ⟨lb_X12_isSite, Wt_of (tk_8 _ (List.mem_of_getElem? (i := 60) rfl)) rfl, Wt_of (tk_8 _ (List.mem_of_getElem? (i := 62) rfl)) rfl, Wt_of (tk_0 _ (List.mem_of_getElem? (i := 71) rfl)) rfl⟩
theorem lb_X12_laysSets : LkB yX12_laysSets mi_X12_laysSets 0 := ⟨Wt_of (tk_8 _ (List.mem_of_getElem? (i := 67) rfl)) rfl, Wt_of (tk_1 _ (List.mem_of_getElem? (i := 12) rfl)) rfl, by decide, by decide, by decide +kernel⟩
theorem lk_X12_356 : LkV RX12 356 yX12_laysSets mi_X12_laysSets 0 := ⟨lb_X12_laysSets, Wt_of (tk_8 _ (List.mem_of_getElem? (i := 64) rfl)) rfl, Wt_of (tk_8 _ (List.mem_of_getElem? (i := 66) rfl)) rfl, Wt_of (tk_0 _ (List.mem_of_getElem? (i := 72) rfl)) rfl⟩
theorem lb_X12_upSet : LkB yX12_upSet mi_X12_upSet 0 := ⟨Wt_of (tk_8 _ (List.mem_of_getElem? (i := 95) rfl)) rfl, Wt_of (tk_1 _ (List.mem_of_getElem? (i := 12) rfl)) rfl, by decide, by decide, by decide +kernel⟩
theorem lk_X12_359 : LkV RX12 359 yX12_upSet mi_X12_upSet 0 := ⟨lb_X12_upSet, Wt_of (tk_8 _ (List.mem_of_getElem? (i := 92) rfl)) rfl, Wt_of (tk_8 _ (List.mem_of_getElem? (i := 94) rfl)) rfl, Wt_of (tk_0 _ (List.mem_of_getElem? (i := 79) rfl)) rfl⟩
theorem lb_X12_isTick : LkB yX12_isTick mi_X12_isTick 1 := ⟨Wt_of (tk_8 _ (List.mem_of_getElem? (i := 110) rfl)) rfl, Wt_of (tk_1 _ (List.mem_of_getElem? (i := 12) rfl)) rfl, by decide, by decide, by decide +kernel⟩
theorem lk_X12_362 : LkS RX12 362 yX12_isTick mi_X12_isTick 1 := ⟨lb_X12_isTick, Wt_of (tk_8 _ (List.mem_of_getElem? (i := 108) rfl)) rfl, Wt_of (tk_8 _ (List.mem_of_getElem? (i := 109) rfl)) rfl⟩
theorem lb_X12_isCell : LkB yX12_isCell mi_X12_isCell 2 := ⟨Wt_of (tk_8 _ (List.mem_of_getElem? (i := 118) rfl)) rfl, Wt_of (tk_1 _ (List.mem_of_getElem? (i := 12) rfl)) rfl, by decide, by decide, by decide +kernel⟩
theorem lk_X12_365 : LkV RX12 365 yX12_isCell mi_X12_isCell 2 := ⟨lb_X12_isCell, Wt_of (tk_8 _ (List.mem_of_getElem? (i := 115) rfl)) rfl, Wt_of (tk_8 _ (List.mem_of_getElem? (i := 117) rfl)) rfl, Wt_of (tk_0 _ (List.mem_of_getElem? (i := 82) rfl)) rfl⟩
theorem lb_X12_doesSee : LkB yX12_doesSee mi_X12_doesSee 4 := ⟨Wt_of (tk_8 _ (List.mem_of_getElem? (i := 122) rfl)) rfl, Wt_of (tk_1 _ (List.mem_of_getElem? (i := 12) rfl)) rfl, by decide, by decide, by decide +kernel⟩
theorem lk_X12_369 : LkV RX12 369 yX12_doesSee mi_X12_doesSee 4 := ⟨lb_X12_doesSee, Wt_of (tk_8 _ (List.mem_of_getElem? (i := 119) rfl)) rfl, Wt_of (tk_8 _ (List.mem_of_getElem? (i := 121) rfl)) rfl, Wt_of (tk_0 _ (List.mem_of_getElem? (i := 83) rfl)) rfl⟩
theorem lb_X12_passes : LkB yX12_passes mi_X12_passes 3 := ⟨Wt_of (tk_8 _ (List.mem_of_getElem? (i := 134) rfl)) rfl, Wt_of (tk_1 _ (List.mem_of_getElem? (i := 12) rfl)) rfl, by decide, by decide, by decide +kernel⟩
theorem lk_X12_374 : LkV RX12 374 yX12_passes mi_X12_passes 3 := ⟨lb_X12_passes, Wt_of (tk_8 _ (List.mem_of_getElem? (i := 139) rfl)) rfl, Wt_of (tk_8 _ (List.mem_of_getElem? (i := 132) rfl)) rfl, Wt_of (tk_8 _ (List.mem_of_getElem? (i := 133) rfl)) rfl⟩
theorem lb_X12_findsPass : LkB yX12_findsPass mi_X12_findsPass 4 := ⟨Wt_of (tk_8 _ (List.mem_of_getElem? (i := 143) rfl)) rfl, Wt_of (tk_1 _ (List.mem_of_getElem? (i := 12) rfl)) rfl, by decide, by decide, by decide +kernel⟩
theorem lk_X12_377 : LkV RX12 377 yX12_findsPass mi_X12_findsPass 4 := ⟨lb_X12_findsPass, Wt_of (tk_8 _ (List.mem_of_getElem? (i := 140) rfl)) rfl, Wt_of (tk_8 _ (List.mem_of_getElem? (i := 142) rfl)) rfl, Wt_of (tk_0 _ (List.mem_of_getElem? (i := 84) rfl)) rfl⟩
theorem lb_X12_gaps : LkB yX12_gaps mi_X12_gaps 2 := ⟨Wt_of (tk_8 _ (List.mem_of_getElem? (i := 148) rfl)) rfl, Wt_of (tk_1 _ (List.mem_of_getElem? (i := 12) rfl)) rfl, by decide, by decide, by decide +kernel⟩
theorem lk_X12_380 : LkV RX12 380 yX12_gaps mi_X12_gaps 2 := ⟨lb_X12_gaps, Wt_of (tk_8 _ (List.mem_of_getElem? (i := 153) rfl)) rfl, Wt_of (tk_8 _ (List.mem_of_getElem? (i := 146) rfl)) rfl, Wt_of (tk_8 _ (List.mem_of_getElem? (i := 147) rfl)) rfl⟩
theorem lb_Jxe99ae_doubleToLongBits_ccdee : LkB yJxe99ae_doubleToLongBits_ccdee mi_Jxe99ae_doubleToLongBits_ccdee 1 := ⟨Wt_of (tk_8 _ (List.mem_of_getElem? (i := 172) rfl)) rfl, Wt_of (tk_1 _ (List.mem_of_getElem? (i := 21) rfl)) rfl, by decide, by decide, by decide +kernel⟩
theorem lk_X12_385 : LkS RX12 385 yJxe99ae_doubleToLongBits_ccdee mi_Jxe99ae_doubleToLongBits_ccdee 1 := ⟨lb_Jxe99ae_doubleToLongBits_ccdee, Wt_of (tk_8 _ (List.mem_of_getElem? (i := 170) rfl)) rfl, Wt_of (tk_8 _ (List.mem_of_getElem? (i := 171) rfl)) rfl⟩
theorem lb_X12_coveredBy : LkB yX12_coveredBy mi_X12_coveredBy 2 := ⟨Wt_of (tk_8 _ (List.mem_of_getElem? (i := 187) rfl)) rfl, Wt_of (tk_1 _ (List.mem_of_getElem? (i := 12) rfl)) rfl, by decide, by decide, by decide +kernel⟩
theorem lk_X12_391 : LkV RX12 391 yX12_coveredBy mi_X12_coveredBy 2 := ⟨lb_X12_coveredBy, Wt_of (tk_8 _ (List.mem_of_getElem? (i := 184) rfl)) rfl, Wt_of (tk_8 _ (List.mem_of_getElem? (i := 186) rfl)) rfl, Wt_of (tk_0 _ (List.mem_of_getElem? (i := 86) rfl)) rfl⟩
theorem lb_Jxf58ca_floatToIntBits_5c35a : LkB yJxf58ca_floatToIntBits_5c35a mi_Jxf58ca_floatToIntBits_5c35a 1 := ⟨Wt_of (tk_8 _ (List.mem_of_getElem? (i := 198) rfl)) rfl, Wt_of (tk_1 _ (List.mem_of_getElem? (i := 22) rfl)) rfl, by decide, by decide, by decide +kernel⟩
theorem lk_X12_394 : LkS RX12 394 yJxf58ca_floatToIntBits_5c35a mi_Jxf58ca_floatToIntBits_5c35a 1 := ⟨lb_Jxf58ca_floatToIntBits_5c35a, Wt_of (tk_8 _ (List.mem_of_getElem? (i := 196) rfl)) rfl, Wt_of (tk_8 _ (List.mem_of_getElem? (i := 197) rfl)) rfl⟩
theorem lb_X12_scoreBy : LkB yX12_scoreBy mi_X12_scoreBy 1 := ⟨Wt_of (tk_8 _ (List.mem_of_getElem? (i := 213) rfl)) rfl, Wt_of (tk_1 _ (List.mem_of_getElem? (i := 12) rfl)) rfl, by decide, by decide, by decide +kernel⟩
theorem lk_X12_400 : LkV RX12 400 yX12_scoreBy mi_X12_scoreBy 1 := ⟨lb_X12_scoreBy, Wt_of (tk_8 _ (List.mem_of_getElem? (i := 210) rfl)) rfl, Wt_of (tk_8 _ (List.mem_of_getElem? (i := 212) rfl)) rfl, Wt_of (tk_0 _ (List.mem_of_getElem? (i := 88) rfl)) rfl⟩
theorem lb_X12_nextOf : LkB yX12_nextOf mi_X12_nextOf 3 := ⟨Wt_of (tk_8 _ (List.mem_of_getElem? (i := 229) rfl)) rfl, Wt_of (tk_1 _ (List.mem_of_getElem? (i := 12) rfl)) rfl, by decide, by decide, by decide +kernel⟩
theorem lk_X12_404 : LkV RX12 404 yX12_nextOf mi_X12_nextOf 3 := ⟨lb_X12_nextOf, Wt_of (tk_8 _ (List.mem_of_getElem? (i := 226) rfl)) rfl, Wt_of (tk_8 _ (List.mem_of_getElem? (i := 228) rfl)) rfl, Wt_of (tk_0 _ (List.mem_of_getElem? (i := 89) rfl)) rfl⟩
theorem lb_X12_laysPlane : LkB yX12_laysPlane mi_X12_laysPlane 1 := ⟨Wt_of (tk_9 _ (List.mem_of_getElem? (i := 5) rfl)) rfl, Wt_of (tk_1 _ (List.mem_of_getElem? (i := 12) rfl)) rfl, by decide, by decide, by decide +kernel⟩
theorem lk_X12_407 : LkV RX12 407 yX12_laysPlane mi_X12_laysPlane 1 := ⟨lb_X12_laysPlane, Wt_of (tk_9 _ (List.mem_of_getElem? (i := 2) rfl)) rfl, Wt_of (tk_9 _ (List.mem_of_getElem? (i := 4) rfl)) rfl, Wt_of (tk_0 _ (List.mem_of_getElem? (i := 90) rfl)) rfl⟩
theorem lb_X12_spreads : LkB yX12_spreads mi_X12_spreads 2 := ⟨Wt_of (tk_9 _ (List.mem_of_getElem? (i := 13) rfl)) rfl, Wt_of (tk_1 _ (List.mem_of_getElem? (i := 12) rfl)) rfl, by decide, by decide, by decide +kernel⟩
theorem lk_X12_410 : LkV RX12 410 yX12_spreads mi_X12_spreads 2 := ⟨lb_X12_spreads, Wt_of (tk_9 _ (List.mem_of_getElem? (i := 10) rfl)) rfl, Wt_of (tk_9 _ (List.mem_of_getElem? (i := 12) rfl)) rfl, Wt_of (tk_0 _ (List.mem_of_getElem? (i := 91) rfl)) rfl⟩
theorem lb_X12_worstBy : LkB yX12_worstBy mi_X12_worstBy 1 := ⟨Wt_of (tk_9 _ (List.mem_of_getElem? (i := 17) rfl)) rfl, Wt_of (tk_1 _ (List.mem_of_getElem? (i := 12) rfl)) rfl, by decide, by decide, by decide +kernel⟩
theorem lk_X12_413 : LkV RX12 413 yX12_worstBy mi_X12_worstBy 1 := ⟨lb_X12_worstBy, Wt_of (tk_9 _ (List.mem_of_getElem? (i := 14) rfl)) rfl, Wt_of (tk_9 _ (List.mem_of_getElem? (i := 16) rfl)) rfl, Wt_of (tk_0 _ (List.mem_of_getElem? (i := 92) rfl)) rfl⟩
theorem lb_X12_isWithin : LkB yX12_isWithin mi_X12_isWithin 2 := ⟨Wt_of (tk_9 _ (List.mem_of_getElem? (i := 33) rfl)) rfl, Wt_of (tk_1 _ (List.mem_of_getElem? (i := 12) rfl)) rfl, by decide, by decide, by decide +kernel⟩
theorem lk_X12_416 : LkV RX12 416 yX12_isWithin mi_X12_isWithin 2 := ⟨lb_X12_isWithin, Wt_of (tk_9 _ (List.mem_of_getElem? (i := 30) rfl)) rfl, Wt_of (tk_9 _ (List.mem_of_getElem? (i := 32) rfl)) rfl, Wt_of (tk_0 _ (List.mem_of_getElem? (i := 93) rfl)) rfl⟩
theorem lb_X12_manyIn : LkB yX12_manyIn mi_X12_manyIn 1 := ⟨Wt_of (tk_9 _ (List.mem_of_getElem? (i := 36) rfl)) rfl, Wt_of (tk_1 _ (List.mem_of_getElem? (i := 12) rfl)) rfl, by decide, by decide, by decide +kernel⟩
theorem lk_X12_419 : LkS RX12 419 yX12_manyIn mi_X12_manyIn 1 := ⟨lb_X12_manyIn, Wt_of (tk_9 _ (List.mem_of_getElem? (i := 34) rfl)) rfl, Wt_of (tk_9 _ (List.mem_of_getElem? (i := 35) rfl)) rfl⟩
theorem lb_X12_isAbove : LkB yX12_isAbove mi_X12_isAbove 3 := ⟨Wt_of (tk_9 _ (List.mem_of_getElem? (i := 68) rfl)) rfl, Wt_of (tk_1 _ (List.mem_of_getElem? (i := 12) rfl)) rfl, by decide, by decide, by decide +kernel⟩
theorem lk_X12_422 : LkV RX12 422 yX12_isAbove mi_X12_isAbove 3 := ⟨lb_X12_isAbove, Wt_of (tk_9 _ (List.mem_of_getElem? (i := 65) rfl)) rfl, Wt_of (tk_9 _ (List.mem_of_getElem? (i := 67) rfl)) rfl, Wt_of (tk_0 _ (List.mem_of_getElem? (i := 96) rfl)) rfl⟩
theorem lb_X12_begins : LkB yX12_begins mi_X12_begins 1 := ⟨Wt_of (tk_9 _ (List.mem_of_getElem? (i := 60) rfl)) rfl, Wt_of (tk_1 _ (List.mem_of_getElem? (i := 12) rfl)) rfl, by decide, by decide, by decide +kernel⟩
theorem lk_X12_425 : LkV RX12 425 yX12_begins mi_X12_begins 1 := ⟨lb_X12_begins, Wt_of (tk_9 _ (List.mem_of_getElem? (i := 57) rfl)) rfl, Wt_of (tk_9 _ (List.mem_of_getElem? (i := 59) rfl)) rfl, Wt_of (tk_0 _ (List.mem_of_getElem? (i := 94) rfl)) rfl⟩
theorem lb_X12_carries : LkB yX12_carries mi_X12_carries 1 := ⟨Wt_of (tk_9 _ (List.mem_of_getElem? (i := 64) rfl)) rfl, Wt_of (tk_1 _ (List.mem_of_getElem? (i := 12) rfl)) rfl, by decide, by decide, by decide +kernel⟩
theorem lk_X12_428 : LkV RX12 428 yX12_carries mi_X12_carries 1 := ⟨lb_X12_carries, Wt_of (tk_9 _ (List.mem_of_getElem? (i := 61) rfl)) rfl, Wt_of (tk_9 _ (List.mem_of_getElem? (i := 63) rfl)) rfl, Wt_of (tk_0 _ (List.mem_of_getElem? (i := 95) rfl)) rfl⟩
theorem lb_X12_holdersOf : LkB yX12_holdersOf mi_X12_holdersOf 3 := ⟨Wt_of (tk_9 _ (List.mem_of_getElem? (i := 76) rfl)) rfl, Wt_of (tk_1 _ (List.mem_of_getElem? (i := 12) rfl)) rfl, by decide, by decide, by decide +kernel⟩
theorem lk_X12_431 : LkV RX12 431 yX12_holdersOf mi_X12_holdersOf 3 := ⟨lb_X12_holdersOf, Wt_of (tk_9 _ (List.mem_of_getElem? (i := 73) rfl)) rfl, Wt_of (tk_9 _ (List.mem_of_getElem? (i := 75) rfl)) rfl, Wt_of (tk_0 _ (List.mem_of_getElem? (i := 97) rfl)) rfl⟩
theorem lb_X12_without : LkB yX12_without mi_X12_without 1 := ⟨Wt_of (tk_9 _ (List.mem_of_getElem? (i := 96) rfl)) rfl, Wt_of (tk_1 _ (List.mem_of_getElem? (i := 12) rfl)) rfl, by decide, by decide, by decide +kernel⟩
theorem lk_X12_434 : LkV RX12 434 yX12_without mi_X12_without 1 := ⟨lb_X12_without, Wt_of (tk_9 _ (List.mem_of_getElem? (i := 93) rfl)) rfl, Wt_of (tk_9 _ (List.mem_of_getElem? (i := 95) rfl)) rfl, Wt_of (tk_0 _ (List.mem_of_getElem? (i := 99) rfl)) rfl⟩
theorem lb_X12_isSuspect : LkB yX12_isSuspect mi_X12_isSuspect 1 := ⟨Wt_of (tk_9 _ (List.mem_of_getElem? (i := 92) rfl)) rfl, Wt_of (tk_1 _ (List.mem_of_getElem? (i := 12) rfl)) rfl, by decide, by decide, by decide +kernel⟩
theorem lk_X12_437 : LkV RX12 437 yX12_isSuspect mi_X12_isSuspect 1 := ⟨lb_X12_isSuspect, Wt_of (tk_9 _ (List.mem_of_getElem? (i := 89) rfl)) rfl, Wt_of (tk_9 _ (List.mem_of_getElem? (i := 91) rfl)) rfl, Wt_of (tk_0 _ (List.mem_of_getElem? (i := 98) rfl)) rfl⟩
theorem lb_X12_remembers : LkB yX12_remembers mi_X12_remembers 0 := ⟨Wt_of (tk_9 _ (List.mem_of_getElem? (i := 108) rfl)) rfl, Wt_of (tk_1 _ (List.mem_of_getElem? (i := 12) rfl)) rfl, by decide, by decide, by decide +kernel⟩
theorem lk_X12_440 : LkV RX12 440 yX12_remembers mi_X12_remembers 0 := ⟨lb_X12_remembers, Wt_of (tk_9 _ (List.mem_of_getElem? (i := 105) rfl)) rfl, Wt_of (tk_9 _ (List.mem_of_getElem? (i := 107) rfl)) rfl, Wt_of (tk_0 _ (List.mem_of_getElem? (i := 100) rfl)) rfl⟩
theorem lb_X12_draw : LkB yX12_draw mi_X12_draw 1 := ⟨Wt_of (tk_9 _ (List.mem_of_getElem? (i := 136) rfl)) rfl, Wt_of (tk_1 _ (List.mem_of_getElem? (i := 12) rfl)) rfl, by decide, by decide, by decide +kernel⟩
theorem lk_X12_449 : LkV RX12 449 yX12_draw mi_X12_draw 1 := ⟨lb_X12_draw, Wt_of (tk_9 _ (List.mem_of_getElem? (i := 133) rfl)) rfl, Wt_of (tk_9 _ (List.mem_of_getElem? (i := 135) rfl)) rfl, Wt_of (tk_0 _ (List.mem_of_getElem? (i := 101) rfl)) rfl⟩
theorem lb_X12_says : LkB yX12_says mi_X12_says 1 := ⟨Wt_of (tk_9 _ (List.mem_of_getElem? (i := 155) rfl)) rfl, Wt_of (tk_1 _ (List.mem_of_getElem? (i := 12) rfl)) rfl, by decide, by decide, by decide +kernel⟩
theorem lk_X12_452 : LkV RX12 452 yX12_says mi_X12_says 1 := ⟨lb_X12_says, Wt_of (tk_9 _ (List.mem_of_getElem? (i := 152) rfl)) rfl, Wt_of (tk_9 _ (List.mem_of_getElem? (i := 154) rfl)) rfl, Wt_of (tk_0 _ (List.mem_of_getElem? (i := 102) rfl)) rfl⟩
theorem lb_X12_isImage : LkB yX12_isImage mi_X12_isImage 1 := ⟨Wt_of (tk_9 _ (List.mem_of_getElem? (i := 167) rfl)) rfl, Wt_of (tk_1 _ (List.mem_of_getElem? (i := 12) rfl)) rfl, by decide, by decide, by decide +kernel⟩
theorem lk_X12_455 : LkV RX12 455 yX12_isImage mi_X12_isImage 1 := ⟨lb_X12_isImage, Wt_of (tk_9 _ (List.mem_of_getElem? (i := 164) rfl)) rfl, Wt_of (tk_9 _ (List.mem_of_getElem? (i := 166) rfl)) rfl, Wt_of (tk_0 _ (List.mem_of_getElem? (i := 103) rfl)) rfl⟩
theorem lb_Jxe99ae_isNaN_b9ae7 : LkB yJxe99ae_isNaN_b9ae7 mi_Jxe99ae_isNaN_b9ae7 1 := ⟨Wt_of (tk_8 _ (List.mem_of_getElem? (i := 175) rfl)) rfl, Wt_of (tk_1 _ (List.mem_of_getElem? (i := 21) rfl)) rfl, by decide, by decide, by decide +kernel⟩
theorem lk_Jxe99ae_122 : LkS RJxe99ae 122 yJxe99ae_isNaN_b9ae7 mi_Jxe99ae_isNaN_b9ae7 1 := ⟨lb_Jxe99ae_isNaN_b9ae7, Wt_of (tk_8 _ (List.mem_of_getElem? (i := 173) rfl)) rfl, Wt_of (tk_8 _ (List.mem_of_getElem? (i := 174) rfl)) rfl⟩
theorem lk_Jxe99ae_134 : Cond.methodLink RJxe99ae 134 ⟨"java/lang/Double", "doubleToRawLongBits", "(D)J"⟩ ∈ Wt := Wt_of (tk_8 _ (List.mem_of_getElem? (i := 176) rfl)) rfl
theorem lb_Jxf58ca_isNaN_12338 : LkB yJxf58ca_isNaN_12338 mi_Jxf58ca_isNaN_12338 1 := ⟨Wt_of (tk_8 _ (List.mem_of_getElem? (i := 201) rfl)) rfl, Wt_of (tk_1 _ (List.mem_of_getElem? (i := 22) rfl)) rfl, by decide, by decide, by decide +kernel⟩
theorem lk_Jxf58ca_59 : LkS RJxf58ca 59 yJxf58ca_isNaN_12338 mi_Jxf58ca_isNaN_12338 1 := ⟨lb_Jxf58ca_isNaN_12338, Wt_of (tk_8 _ (List.mem_of_getElem? (i := 199) rfl)) rfl, Wt_of (tk_8 _ (List.mem_of_getElem? (i := 200) rfl)) rfl⟩
theorem lk_Jxf58ca_74 : Cond.methodLink RJxf58ca 74 ⟨"java/lang/Float", "floatToRawIntBits", "(F)I"⟩ ∈ Wt := Wt_of (tk_8 _ (List.mem_of_getElem? (i := 202) rfl)) rfl
theorem cn_X11_500 : Cond.constant RX11 500 8388607 ∈ Wt := Wt_of (tk_5 _ (List.mem_of_getElem? (i := 40) rfl)) rfl
theorem cn_J6_264 : Cond.constant RJ6 264 65536 ∈ Wt := Wt_of (tk_5 _ (List.mem_of_getElem? (i := 69) rfl)) rfl
theorem cn_J6_265 : Cond.constant RJ6 265 1431655765 ∈ Wt := Wt_of (tk_4 _ (List.mem_of_getElem? (i := 39) rfl)) rfl
theorem cn_J6_266 : Cond.constant RJ6 266 858993459 ∈ Wt := Wt_of (tk_4 _ (List.mem_of_getElem? (i := 40) rfl)) rfl
theorem cn_J6_267 : Cond.constant RJ6 267 252645135 ∈ Wt := Wt_of (tk_4 _ (List.mem_of_getElem? (i := 41) rfl)) rfl
def kf_X11_503 : UInt64 := 4611686018427387904
theorem cn_X11_503 : Cond.constantDouble RX11 503 kf_X11_503 ∈ Wt := Wt_of (tk_5 _ (List.mem_of_getElem? (i := 15) rfl)) rfl
def kf_X11_507 : UInt64 := 4841369599423283200
theorem cn_X11_507 : Cond.constantDouble RX11 507 kf_X11_507 ∈ Wt := Wt_of (tk_5 _ (List.mem_of_getElem? (i := 17) rfl)) rfl
def kf_X11_499 : UInt32 := 1258291200
theorem cn_X11_499 : Cond.constantFloat RX11 499 kf_X11_499 ∈ Wt := Wt_of (tk_5 _ (List.mem_of_getElem? (i := 39) rfl)) rfl
theorem cn_X11_314 : Cond.constantLong RX11 314 (-1) ∈ Wt := Wt_of (tk_5 _ (List.mem_of_getElem? (i := 6) rfl)) rfl
theorem cn_X11_490 : Cond.constantLong RX11 490 1103515245 ∈ Wt := Wt_of (tk_6 _ (List.mem_of_getElem? (i := 119) rfl)) rfl
theorem cn_X11_492 : Cond.constantLong RX11 492 12345 ∈ Wt := Wt_of (tk_6 _ (List.mem_of_getElem? (i := 120) rfl)) rfl
theorem cn_X11_494 : Cond.constantLong RX11 494 2147483647 ∈ Wt := Wt_of (tk_6 _ (List.mem_of_getElem? (i := 121) rfl)) rfl
theorem cn_X11_501 : Cond.constantLong RX11 501 1023 ∈ Wt := Wt_of (tk_5 _ (List.mem_of_getElem? (i := 14) rfl)) rfl
theorem cn_X11_505 : Cond.constantLong RX11 505 2046 ∈ Wt := Wt_of (tk_5 _ (List.mem_of_getElem? (i := 16) rfl)) rfl
theorem cn_X11_509 : Cond.constantLong RX11 509 4503599627370495 ∈ Wt := Wt_of (tk_5 _ (List.mem_of_getElem? (i := 18) rfl)) rfl
theorem cn_X12_373 : Cond.constant RX12 373 1000000 ∈ Wt := Wt_of (tk_8 _ (List.mem_of_getElem? (i := 144) rfl)) rfl
theorem cn_Jxf58ca_77 : Cond.constant RJxf58ca 77 2143289344 ∈ Wt := Wt_of (tk_8 _ (List.mem_of_getElem? (i := 205) rfl)) rfl
theorem cn_X12_383 : Cond.constantLong RX12 383 (-1) ∈ Wt := Wt_of (tk_8 _ (List.mem_of_getElem? (i := 169) rfl)) rfl
theorem cn_X12_443 : Cond.constantLong RX12 443 1103515245 ∈ Wt := Wt_of (tk_9 _ (List.mem_of_getElem? (i := 137) rfl)) rfl
theorem cn_X12_445 : Cond.constantLong RX12 445 12345 ∈ Wt := Wt_of (tk_9 _ (List.mem_of_getElem? (i := 138) rfl)) rfl
theorem cn_X12_447 : Cond.constantLong RX12 447 2147483648 ∈ Wt := Wt_of (tk_9 _ (List.mem_of_getElem? (i := 139) rfl)) rfl
theorem cn_Jxe99ae_137 : Cond.constantLong RJxe99ae 137 9221120237041090560 ∈ Wt := Wt_of (tk_8 _ (List.mem_of_getElem? (i := 179) rfl)) rfl
theorem kb_6 : (Int8.ofInt 6).toInt32 = 6 := by decide
theorem kb_7 : (Int8.ofInt 7).toInt32 = 7 := by decide
theorem kb_8 : (Int8.ofInt 8).toInt32 = 8 := by decide
theorem kb_9 : (Int8.ofInt 9).toInt32 = 9 := by decide
theorem kb_10 : (Int8.ofInt 10).toInt32 = 10 := by decide
theorem kb_11 : (Int8.ofInt 11).toInt32 = 11 := by decide
theorem kb_12 : (Int8.ofInt 12).toInt32 = 12 := by decide
theorem kb_13 : (Int8.ofInt 13).toInt32 = 13 := by decide
theorem kb_14 : (Int8.ofInt 14).toInt32 = 14 := by decide
theorem kb_16 : (Int8.ofInt 16).toInt32 = 16 := by decide
theorem kb_20 : (Int8.ofInt 20).toInt32 = 20 := by decide
theorem kb_23 : (Int8.ofInt 23).toInt32 = 23 := by decide
theorem kb_24 : (Int8.ofInt 24).toInt32 = 24 := by decide
theorem kb_25 : (Int8.ofInt 25).toInt32 = 25 := by decide
theorem kb_28 : (Int8.ofInt 28).toInt32 = 28 := by decide
theorem kb_31 : (Int8.ofInt 31).toInt32 = 31 := by decide
theorem kb_32 : (Int8.ofInt 32).toInt32 = 32 := by decide
theorem kb_40 : (Int8.ofInt 40).toInt32 = 40 := by decide
theorem kb_48 : (Int8.ofInt 48).toInt32 = 48 := by decide
theorem kb_52 : (Int8.ofInt 52).toInt32 = 52 := by decide
theorem kb_57 : (Int8.ofInt 57).toInt32 = 57 := by decide
theorem kb_59 : (Int8.ofInt 59).toInt32 = 59 := by decide
theorem kb_63 : (Int8.ofInt 63).toInt32 = 63 := by decide
theorem kb_64 : (Int8.ofInt 64).toInt32 = 64 := by decide
theorem kb_70 : (Int8.ofInt 70).toInt32 = 70 := by decide
theorem kb_96 : (Int8.ofInt 96).toInt32 = 96 := by decide
theorem kb_97 : (Int8.ofInt 97).toInt32 = 97 := by decide
theorem kb_108 : (Int8.ofInt 108).toInt32 = 108 := by decide
theorem kb_122 : (Int8.ofInt 122).toInt32 = 122 := by decide
theorem kb_127 : (Int8.ofInt 127).toInt32 = 127 := by decide
theorem kc_m8 : Int32.ofInt (-8) = (-8) := by decide
theorem kc_m1 : Int32.ofInt (-1) = (-1) := by decide
theorem kcm_1 : Int32.ofInt (-1) = m1 := by decide
theorem kc_0 : Int32.ofInt 0 = 0 := by decide
theorem kc_1 : Int32.ofInt 1 = 1 := by decide
theorem kc_2 : Int32.ofInt 2 = 2 := by decide
theorem kc_3 : Int32.ofInt 3 = 3 := by decide
theorem kc_4 : Int32.ofInt 4 = 4 := by decide
theorem kc_5 : Int32.ofInt 5 = 5 := by decide
theorem kc_8 : Int32.ofInt 8 = 8 := by decide
theorem kc_16 : Int32.ofInt 16 = 16 := by decide
theorem ks_167 : (Int16.ofInt 167).toInt32 = 167 := by decide
theorem ks_240 : (Int16.ofInt 240).toInt32 = 240 := by decide
theorem ks_251 : (Int16.ofInt 251).toInt32 = 251 := by decide
theorem ks_254 : (Int16.ofInt 254).toInt32 = 254 := by decide
theorem ks_255 : (Int16.ofInt 255).toInt32 = 255 := by decide
theorem ks_256 : (Int16.ofInt 256).toInt32 = 256 := by decide
theorem ks_480 : (Int16.ofInt 480).toInt32 = 480 := by decide
theorem ks_532 : (Int16.ofInt 532).toInt32 = 532 := by decide
theorem ks_1600 : (Int16.ofInt 1600).toInt32 = 1600 := by decide
theorem ks_9999 : (Int16.ofInt 9999).toInt32 = 9999 := by decide
theorem sw_X11_changeByChance_17 {x : Int32} (n0 : ¬ x = 0) (n1 : ¬ x = 1) (n2 : ¬ x = 2) : x.toInt < 0 ∨ 2 < x.toInt := by have e0 : x.toInt ≠ 0 := ne_toInt n0; have e1 : x.toInt ≠ 1 := ne_toInt n1; have e2 : x.toInt ≠ 2 := ne_toInt n2; omega
theorem sw_X11_couple_42 {x : Int32} (n0 : ¬ x = 0) (n1 : ¬ x = 1) : ((#[(0, 26), (1, 34)] : Array (Int × Int)).toList.zip ((#[(0, 26), (1, 34)] : Array (Int × Int)).toList.drop 1)).all (fun (a, next) => a.1 < next.1) = true ∧ Op.lookupswitch.offset (#[(0, 26), (1, 34)] : Array (Int × Int)).toList 42 x.toInt = 42 := by have e0 : x.toInt ≠ 0 := ne_toInt n0; have e1 : x.toInt ≠ 1 := ne_toInt n1; refine ⟨by decide, ?_⟩; simp [Op.lookupswitch.offset, e0.symm, e1.symm, e0, e1]
theorem sw_X11_craft_14 {x : Int32} (n0 : ¬ x = 0) (n1 : ¬ x = 1) (n2 : ¬ x = 2) (n3 : ¬ x = 3) : x.toInt < 0 ∨ 3 < x.toInt := by have e0 : x.toInt ≠ 0 := ne_toInt n0; have e1 : x.toInt ≠ 1 := ne_toInt n1; have e2 : x.toInt ≠ 2 := ne_toInt n2; have e3 : x.toInt ≠ 3 := ne_toInt n3; omega
theorem sw_X11_critical_38 {x : Int32} (n0 : ¬ x = 0) (n1 : ¬ x = 1) : ((#[(0, 26), (1, 34)] : Array (Int × Int)).toList.zip ((#[(0, 26), (1, 34)] : Array (Int × Int)).toList.drop 1)).all (fun (a, next) => a.1 < next.1) = true ∧ Op.lookupswitch.offset (#[(0, 26), (1, 34)] : Array (Int × Int)).toList 42 x.toInt = 42 := by have e0 : x.toInt ≠ 0 := ne_toInt n0; have e1 : x.toInt ≠ 1 := ne_toInt n1; refine ⟨by decide, ?_⟩; simp [Op.lookupswitch.offset, e0.symm, e1.symm, e0, e1]
theorem sw_X11_depth_44 {x : Int32} (n0 : ¬ x = 0) (n1 : ¬ x = 1) (n2 : ¬ x = 2) : x.toInt < 0 ∨ 2 < x.toInt := by have e0 : x.toInt ≠ 0 := ne_toInt n0; have e1 : x.toInt ≠ 1 := ne_toInt n1; have e2 : x.toInt ≠ 2 := ne_toInt n2; omega
theorem sw_X11_fault_1 {x : Int32} (n0 : ¬ x = 0) (n1 : ¬ x = 1) : ((#[(0, 27), (1, 32)] : Array (Int × Int)).toList.zip ((#[(0, 27), (1, 32)] : Array (Int × Int)).toList.drop 1)).all (fun (a, next) => a.1 < next.1) = true ∧ Op.lookupswitch.offset (#[(0, 27), (1, 32)] : Array (Int × Int)).toList 37 x.toInt = 37 := by have e0 : x.toInt ≠ 0 := ne_toInt n0; have e1 : x.toInt ≠ 1 := ne_toInt n1; refine ⟨by decide, ?_⟩; simp [Op.lookupswitch.offset, e0.symm, e1.symm, e0, e1]
theorem sw_X11_gap_52 {x : Int32} (n0 : ¬ x = 0) (n1 : ¬ x = 1) : ((#[(0, 28), (1, 36)] : Array (Int × Int)).toList.zip ((#[(0, 28), (1, 36)] : Array (Int × Int)).toList.drop 1)).all (fun (a, next) => a.1 < next.1) = true ∧ Op.lookupswitch.offset (#[(0, 28), (1, 36)] : Array (Int × Int)).toList 44 x.toInt = 44 := by have e0 : x.toInt ≠ 0 := ne_toInt n0; have e1 : x.toInt ≠ 1 := ne_toInt n1; refine ⟨by decide, ?_⟩; simp [Op.lookupswitch.offset, e0.symm, e1.symm, e0, e1]
theorem sw_X11_has_1 {x : Int32} (n0 : ¬ x = 0) (n1 : ¬ x = 1) (n2 : ¬ x = 2) (n3 : ¬ x = 3) (n4 : ¬ x = 4) (n5 : ¬ x = 5) (n6 : ¬ x = 6) (n7 : ¬ x = 7) (n8 : ¬ x = 8) (n9 : ¬ x = 9) (n10 : ¬ x = 10) (n11 : ¬ x = 11) : x.toInt < 0 ∨ 11 < x.toInt := by have e0 : x.toInt ≠ 0 := ne_toInt n0; have e1 : x.toInt ≠ 1 := ne_toInt n1; have e2 : x.toInt ≠ 2 := ne_toInt n2; have e3 : x.toInt ≠ 3 := ne_toInt n3; have e4 : x.toInt ≠ 4 := ne_toInt n4; have e5 : x.toInt ≠ 5 := ne_toInt n5; have e6 : x.toInt ≠ 6 := ne_toInt n6; have e7 : x.toInt ≠ 7 := ne_toInt n7; have e8 : x.toInt ≠ 8 := ne_toInt n8; have e9 : x.toInt ≠ 9 := ne_toInt n9; have e10 : x.toInt ≠ 10 := ne_toInt n10; have e11 : x.toInt ≠ 11 := ne_toInt n11; omega
theorem sw_X11_pass_71 {x : Int32} (n0 : ¬ x = 0) (n1 : ¬ x = 1) (n2 : ¬ x = 2) : x.toInt < 0 ∨ 2 < x.toInt := by have e0 : x.toInt ≠ 0 := ne_toInt n0; have e1 : x.toInt ≠ 1 := ne_toInt n1; have e2 : x.toInt ≠ 2 := ne_toInt n2; omega
theorem sw_X11_plane_14 {x : Int32} (n0 : ¬ x = 0) (n1 : ¬ x = 1) (n2 : ¬ x = 2) (n3 : ¬ x = 3) : x.toInt < 0 ∨ 3 < x.toInt := by have e0 : x.toInt ≠ 0 := ne_toInt n0; have e1 : x.toInt ≠ 1 := ne_toInt n1; have e2 : x.toInt ≠ 2 := ne_toInt n2; have e3 : x.toInt ≠ 3 := ne_toInt n3; omega
theorem sw_X11_site_18 {x : Int32} (n0 : ¬ x = 0) (n1 : ¬ x = 1) (n2 : ¬ x = 2) (n3 : ¬ x = 3) (n4 : ¬ x = 4) (n5 : ¬ x = 5) : x.toInt < 0 ∨ 5 < x.toInt := by have e0 : x.toInt ≠ 0 := ne_toInt n0; have e1 : x.toInt ≠ 1 := ne_toInt n1; have e2 : x.toInt ≠ 2 := ne_toInt n2; have e3 : x.toInt ≠ 3 := ne_toInt n3; have e4 : x.toInt ≠ 4 := ne_toInt n4; have e5 : x.toInt ≠ 5 := ne_toInt n5; omega
theorem sw_X11_spot_26 {x : Int32} (n0 : ¬ x = 0) (n1 : ¬ x = 1) : ((#[(0, 26), (1, 40)] : Array (Int × Int)).toList.zip ((#[(0, 26), (1, 40)] : Array (Int × Int)).toList.drop 1)).all (fun (a, next) => a.1 < next.1) = true ∧ Op.lookupswitch.offset (#[(0, 26), (1, 40)] : Array (Int × Int)).toList 54 x.toInt = 54 := by have e0 : x.toInt ≠ 0 := ne_toInt n0; have e1 : x.toInt ≠ 1 := ne_toInt n1; refine ⟨by decide, ?_⟩; simp [Op.lookupswitch.offset, e0.symm, e1.symm, e0, e1]
theorem sw_X12_has_35 {x : Int32} (n0 : ¬ x = 0) (n1 : ¬ x = 1) (n2 : ¬ x = 2) (n3 : ¬ x = 3) (n4 : ¬ x = 4) (n5 : ¬ x = 5) (n6 : ¬ x = 6) (n7 : ¬ x = 7) (n8 : ¬ x = 8) (n9 : ¬ x = 9) (n10 : ¬ x = 10) : x.toInt < 0 ∨ 10 < x.toInt := by have e0 : x.toInt ≠ 0 := ne_toInt n0; have e1 : x.toInt ≠ 1 := ne_toInt n1; have e2 : x.toInt ≠ 2 := ne_toInt n2; have e3 : x.toInt ≠ 3 := ne_toInt n3; have e4 : x.toInt ≠ 4 := ne_toInt n4; have e5 : x.toInt ≠ 5 := ne_toInt n5; have e6 : x.toInt ≠ 6 := ne_toInt n6; have e7 : x.toInt ≠ 7 := ne_toInt n7; have e8 : x.toInt ≠ 8 := ne_toInt n8; have e9 : x.toInt ≠ 9 := ne_toInt n9; have e10 : x.toInt ≠ 10 := ne_toInt n10; omega
