/-! LINKS -/
theorem in_s {w : Cond} (h : w ∈ k2_sels lw_privs) : w ∈ lw_tbl := List.mem_append_left _ h
theorem in_t1 {w : Cond} (h : w ∈ tables_1_1) : w ∈ lw_tbl := List.mem_append_right _ (List.mem_append_left _ h)
theorem in_t2 {w : Cond} (h : w ∈ tables_1_2) : w ∈ lw_tbl := List.mem_append_right _ (List.mem_append_right _ (List.mem_append_left _ h))
theorem in_t3 {w : Cond} (h : w ∈ tables_1_3) : w ∈ lw_tbl := List.mem_append_right _ (List.mem_append_right _ (List.mem_append_right _ (List.mem_append_left _ h)))
theorem in_t4 {w : Cond} (h : w ∈ tables_1_4) : w ∈ lw_tbl := List.mem_append_right _ (List.mem_append_right _ (List.mem_append_right _ (List.mem_append_right _ (List.mem_append_left _ h))))
theorem in_t5 {w : Cond} (h : w ∈ tables_1_5) : w ∈ lw_tbl := List.mem_append_right _ (List.mem_append_right _ (List.mem_append_right _ (List.mem_append_right _ (List.mem_append_right _ (List.mem_append_left _ h)))))
theorem in_t6 {w : Cond} (h : w ∈ tables_1_6) : w ∈ lw_tbl := List.mem_append_right _ (List.mem_append_right _ (List.mem_append_right _ (List.mem_append_right _ (List.mem_append_right _ (List.mem_append_right _ (List.mem_append_left _ h))))))
theorem in_t7 {w : Cond} (h : w ∈ tables_1_7) : w ∈ lw_tbl := List.mem_append_right _ (List.mem_append_right _ (List.mem_append_right _ (List.mem_append_right _ (List.mem_append_right _ (List.mem_append_right _ (List.mem_append_right _ (List.mem_append_left _ h)))))))
theorem in_t8 {w : Cond} (h : w ∈ tables_1_8) : w ∈ lw_tbl := List.mem_append_right _ (List.mem_append_right _ (List.mem_append_right _ (List.mem_append_right _ (List.mem_append_right _ (List.mem_append_right _ (List.mem_append_right _ (List.mem_append_right _ (h))))))))
theorem ic_m8 : Int32.ofInt (-8) = (-8) := by decide
theorem ic_m1 : Int32.ofInt (-1) = (-1) := by decide
theorem ic_0 : Int32.ofInt 0 = (nI 0) := by decide
theorem ic_1 : Int32.ofInt 1 = (nI 1) := by decide
theorem ic_2 : Int32.ofInt 2 = (nI 2) := by decide
theorem ic_3 : Int32.ofInt 3 = (nI 3) := by decide
theorem ic_4 : Int32.ofInt 4 = (nI 4) := by decide
theorem ic_5 : Int32.ofInt 5 = (nI 5) := by decide
theorem ic_8 : Int32.ofInt 8 = (nI 8) := by decide
theorem ic_16 : Int32.ofInt 16 = (nI 16) := by decide
theorem bp_m100 : (Int8.ofInt (-100)).toInt32 = (-100) := by decide
theorem bp_m2 : (Int8.ofInt (-2)).toInt32 = (-2) := by decide
theorem bp_6 : (Int8.ofInt 6).toInt32 = (nI 6) := by decide
theorem bp_7 : (Int8.ofInt 7).toInt32 = (nI 7) := by decide
theorem bp_8 : (Int8.ofInt 8).toInt32 = (nI 8) := by decide
theorem bp_9 : (Int8.ofInt 9).toInt32 = (nI 9) := by decide
theorem bp_10 : (Int8.ofInt 10).toInt32 = (nI 10) := by decide
theorem bp_11 : (Int8.ofInt 11).toInt32 = (nI 11) := by decide
theorem bp_12 : (Int8.ofInt 12).toInt32 = (nI 12) := by decide
theorem bp_16 : (Int8.ofInt 16).toInt32 = (nI 16) := by decide
theorem bp_20 : (Int8.ofInt 20).toInt32 = (nI 20) := by decide
theorem bp_24 : (Int8.ofInt 24).toInt32 = (nI 24) := by decide
theorem bp_27 : (Int8.ofInt 27).toInt32 = (nI 27) := by decide
theorem bp_32 : (Int8.ofInt 32).toInt32 = (nI 32) := by decide
theorem bp_33 : (Int8.ofInt 33).toInt32 = (nI 33) := by decide
theorem bp_40 : (Int8.ofInt 40).toInt32 = (nI 40) := by decide
theorem bp_43 : (Int8.ofInt 43).toInt32 = (nI 43) := by decide
theorem bp_44 : (Int8.ofInt 44).toInt32 = (nI 44) := by decide
theorem bp_45 : (Int8.ofInt 45).toInt32 = (nI 45) := by decide
theorem bp_47 : (Int8.ofInt 47).toInt32 = (nI 47) := by decide
theorem bp_48 : (Int8.ofInt 48).toInt32 = (nI 48) := by decide
theorem bp_54 : (Int8.ofInt 54).toInt32 = (nI 54) := by decide
theorem bp_57 : (Int8.ofInt 57).toInt32 = (nI 57) := by decide
theorem bp_58 : (Int8.ofInt 58).toInt32 = (nI 58) := by decide
theorem bp_59 : (Int8.ofInt 59).toInt32 = (nI 59) := by decide
theorem bp_60 : (Int8.ofInt 60).toInt32 = (nI 60) := by decide
theorem bp_61 : (Int8.ofInt 61).toInt32 = (nI 61) := by decide
theorem bp_62 : (Int8.ofInt 62).toInt32 = (nI 62) := by decide
theorem bp_63 : (Int8.ofInt 63).toInt32 = (nI 63) := by decide
theorem bp_96 : (Int8.ofInt 96).toInt32 = (nI 96) := by decide
theorem bp_97 : (Int8.ofInt 97).toInt32 = (nI 97) := by decide
theorem bp_98 : (Int8.ofInt 98).toInt32 = (nI 98) := by decide
theorem bp_99 : (Int8.ofInt 99).toInt32 = (nI 99) := by decide
theorem bp_100 : (Int8.ofInt 100).toInt32 = (nI 100) := by decide
theorem sp_m1000 : (Int16.ofInt (-1000)).toInt32 = (-1000) := by decide
theorem sp_189 : (Int16.ofInt 189).toInt32 = (nI 189) := by decide
theorem sp_240 : (Int16.ofInt 240).toInt32 = (nI 240) := by decide
theorem sp_255 : (Int16.ofInt 255).toInt32 = (nI 255) := by decide
theorem sp_256 : (Int16.ofInt 256).toInt32 = (nI 256) := by decide
theorem sp_300 : (Int16.ofInt 300).toInt32 = (nI 300) := by decide
theorem sp_500 : (Int16.ofInt 500).toInt32 = (nI 500) := by decide
theorem sp_512 : (Int16.ofInt 512).toInt32 = (nI 512) := by decide
theorem sp_999 : (Int16.ofInt 999).toInt32 = (nI 999) := by decide
theorem sp_1000 : (Int16.ofInt 1000).toInt32 = (nI 1000) := by decide
theorem sp_1023 : (Int16.ofInt 1023).toInt32 = (nI 1023) := by decide
theorem sp_2048 : (Int16.ofInt 2048).toInt32 = (nI 2048) := by decide
theorem sp_2560 : (Int16.ofInt 2560).toInt32 = (nI 2560) := by decide
theorem sp_8000 : (Int16.ofInt 8000).toInt32 = (nI 8000) := by decide
set_option maxRecDepth 100000 in
theorem kc_X0_52 : Cond.constant "TwoPencils$Cutter" 52 (nI 1000000) ∈ lw_tbl := in_t3 (List.mem_of_getElem? (i := 220) rfl)
set_option maxRecDepth 100000 in
theorem kc_X1_113 : Cond.constant "TwoPencils$Game" 113 (nI 1000000) ∈ lw_tbl := in_t4 (List.mem_of_getElem? (i := 142) rfl)
set_option maxRecDepth 100000 in
theorem kc_X3_166 : Cond.constantLong "TwoPencils$Land" 166 6364136223846793005 ∈ lw_tbl := in_t4 (List.mem_of_getElem? (i := 105) rfl)
set_option maxRecDepth 100000 in
theorem kc_X3_168 : Cond.constantLong "TwoPencils$Land" 168 1442695040888963407 ∈ lw_tbl := in_t4 (List.mem_of_getElem? (i := 106) rfl)
set_option maxRecDepth 100000 in
theorem kc_X3_188 : Cond.constant "TwoPencils$Land" 188 (nI 1000000) ∈ lw_tbl := in_t3 (List.mem_of_getElem? (i := 215) rfl)
set_option maxRecDepth 100000 in
theorem kc_X5_149 : Cond.constant "TwoPencils$Mind" 149 (nI 1000000) ∈ lw_tbl := in_t5 (List.mem_of_getElem? (i := 40) rfl)
set_option maxRecDepth 100000 in
theorem kc_X10_336 : Cond.constant "TwoPencils" 336 (nI 1000000) ∈ lw_tbl := in_t4 (List.mem_of_getElem? (i := 49) rfl)
set_option maxRecDepth 100000 in
theorem kc_X11_269 : Cond.constantLong "TwoPencilsModel" 269 6364136223846793005 ∈ lw_tbl := in_t7 (List.mem_of_getElem? (i := 120) rfl)
set_option maxRecDepth 100000 in
theorem kc_X11_271 : Cond.constantLong "TwoPencilsModel" 271 1442695040888963407 ∈ lw_tbl := in_t7 (List.mem_of_getElem? (i := 121) rfl)
set_option maxRecDepth 100000 in
theorem kc_X11_49 : Cond.constant "TwoPencilsModel" 49 (nI 40000) ∈ lw_tbl := in_t5 (List.mem_of_getElem? (i := 204) rfl)
set_option maxRecDepth 100000 in
theorem kc_J6_264 : Cond.constant "java/lang/Integer" 264 (nI 65536) ∈ lw_tbl := in_t7 (List.mem_of_getElem? (i := 164) rfl)
set_option maxRecDepth 100000 in
theorem kc_J6_265 : Cond.constant "java/lang/Integer" 265 (nI 1431655765) ∈ lw_tbl := in_t4 (List.mem_of_getElem? (i := 62) rfl)
set_option maxRecDepth 100000 in
theorem kc_J6_266 : Cond.constant "java/lang/Integer" 266 (nI 858993459) ∈ lw_tbl := in_t4 (List.mem_of_getElem? (i := 63) rfl)
set_option maxRecDepth 100000 in
theorem kc_J6_267 : Cond.constant "java/lang/Integer" 267 (nI 252645135) ∈ lw_tbl := in_t4 (List.mem_of_getElem? (i := 64) rfl)
set_option maxRecDepth 100000 in
theorem f_X10_10 : lnk "TwoPencils" 10 10 0 := Or.inl (in_t2 (List.mem_of_getElem? (i := 192) rfl))
set_option maxRecDepth 100000 in
theorem f_X10_19 : lnk "TwoPencils" 19 10 1 := Or.inl (in_t2 (List.mem_of_getElem? (i := 193) rfl))
set_option maxRecDepth 100000 in
theorem f_X10_26 : lnk "TwoPencils" 26 10 2 := Or.inl (in_t2 (List.mem_of_getElem? (i := 194) rfl))
set_option maxRecDepth 100000 in
theorem f_X10_32 : lnk "TwoPencils" 32 10 3 := Or.inl (in_t2 (List.mem_of_getElem? (i := 195) rfl))
set_option maxRecDepth 100000 in
theorem f_X10_38 : lnk "TwoPencils" 38 10 4 := Or.inl (in_t2 (List.mem_of_getElem? (i := 196) rfl))
set_option maxRecDepth 100000 in
theorem f_X10_44 : lnk "TwoPencils" 44 10 5 := Or.inl (in_t2 (List.mem_of_getElem? (i := 197) rfl))
set_option maxRecDepth 100000 in
theorem f_X10_48 : lnk "TwoPencils" 48 10 6 := Or.inl (in_t2 (List.mem_of_getElem? (i := 198) rfl))
set_option maxRecDepth 100000 in
theorem f_X10_52 : lnk "TwoPencils" 52 10 7 := Or.inl (in_t2 (List.mem_of_getElem? (i := 199) rfl))
set_option maxRecDepth 100000 in
theorem f_X10_55 : lnk "TwoPencils" 55 10 8 := Or.inl (in_t2 (List.mem_of_getElem? (i := 200) rfl))
set_option maxRecDepth 100000 in
theorem f_X10_61 : lnk "TwoPencils" 61 10 9 := Or.inl (in_t2 (List.mem_of_getElem? (i := 201) rfl))
set_option maxRecDepth 100000 in
theorem f_X10_68 : lnk "TwoPencils" 68 10 10 := Or.inl (in_t2 (List.mem_of_getElem? (i := 202) rfl))
set_option maxRecDepth 100000 in
theorem f_X10_75 : lnk "TwoPencils" 75 10 11 := Or.inl (in_t2 (List.mem_of_getElem? (i := 203) rfl))
set_option maxRecDepth 100000 in
theorem f_X10_84 : lnk "TwoPencils" 84 10 12 := Or.inl (in_t2 (List.mem_of_getElem? (i := 204) rfl))
set_option maxRecDepth 100000 in
theorem f_X10_93 : lnk "TwoPencils" 93 10 13 := Or.inl (in_t2 (List.mem_of_getElem? (i := 205) rfl))
set_option maxRecDepth 100000 in
theorem f_X10_100 : lnk "TwoPencils" 100 10 14 := Or.inl (in_t2 (List.mem_of_getElem? (i := 206) rfl))
set_option maxRecDepth 100000 in
theorem f_X10_104 : lnk "TwoPencils" 104 10 15 := Or.inl (in_t2 (List.mem_of_getElem? (i := 207) rfl))
set_option maxRecDepth 100000 in
theorem f_X10_108 : lnk "TwoPencils" 108 10 16 := Or.inl (in_t2 (List.mem_of_getElem? (i := 208) rfl))
set_option maxRecDepth 100000 in
theorem f_X10_111 : lnk "TwoPencils" 111 10 17 := Or.inl (in_t2 (List.mem_of_getElem? (i := 209) rfl))
set_option maxRecDepth 100000 in
theorem f_X10_124 : lnk "TwoPencils" 124 9 1 := Or.inr ⟨"TwoPencils", in_t1 (List.mem_of_getElem? (i := 36) rfl)⟩
set_option maxRecDepth 100000 in
theorem f_X10_140 : lnk "TwoPencils" 140 3 0 := Or.inr ⟨"TwoPencils", in_t1 (List.mem_of_getElem? (i := 169) rfl)⟩
set_option maxRecDepth 100000 in
theorem f_X10_143 : lnk "TwoPencils" 143 3 1 := Or.inr ⟨"TwoPencils", in_t1 (List.mem_of_getElem? (i := 174) rfl)⟩
set_option maxRecDepth 100000 in
theorem f_X10_146 : lnk "TwoPencils" 146 3 2 := Or.inr ⟨"TwoPencils", in_t1 (List.mem_of_getElem? (i := 176) rfl)⟩
set_option maxRecDepth 100000 in
theorem f_X10_149 : lnk "TwoPencils" 149 3 3 := Or.inr ⟨"TwoPencils", in_t1 (List.mem_of_getElem? (i := 178) rfl)⟩
set_option maxRecDepth 100000 in
theorem f_X10_164 : lnk "TwoPencils" 164 3 5 := Or.inr ⟨"TwoPencils", in_t1 (List.mem_of_getElem? (i := 182) rfl)⟩
set_option maxRecDepth 100000 in
theorem f_X10_167 : lnk "TwoPencils" 167 3 15 := Or.inr ⟨"TwoPencils", in_t1 (List.mem_of_getElem? (i := 200) rfl)⟩
set_option maxRecDepth 100000 in
theorem f_X10_175 : lnk "TwoPencils" 175 3 14 := Or.inr ⟨"TwoPencils", in_t1 (List.mem_of_getElem? (i := 198) rfl)⟩
set_option maxRecDepth 100000 in
theorem f_X10_206 : lnk "TwoPencils" 206 8 2 := Or.inr ⟨"TwoPencils", in_t1 (List.mem_of_getElem? (i := 137) rfl)⟩
set_option maxRecDepth 100000 in
theorem f_X10_211 : lnk "TwoPencils" 211 8 0 := Or.inr ⟨"TwoPencils", in_t1 (List.mem_of_getElem? (i := 133) rfl)⟩
set_option maxRecDepth 100000 in
theorem f_X10_273 : lnk "TwoPencils" 273 1 10 := Or.inr ⟨"TwoPencils", in_t2 (List.mem_of_getElem? (i := 147) rfl)⟩
set_option maxRecDepth 100000 in
theorem f_X10_285 : lnk "TwoPencils" 285 1 5 := Or.inr ⟨"TwoPencils", in_t2 (List.mem_of_getElem? (i := 134) rfl)⟩
set_option maxRecDepth 100000 in
theorem f_X10_298 : lnk "TwoPencils" 298 1 2 := Or.inr ⟨"TwoPencils", in_t2 (List.mem_of_getElem? (i := 129) rfl)⟩
set_option maxRecDepth 100000 in
theorem f_X10_301 : lnk "TwoPencils" 301 1 3 := Or.inr ⟨"TwoPencils", in_t2 (List.mem_of_getElem? (i := 131) rfl)⟩
set_option maxRecDepth 100000 in
theorem f_X10_312 : lnk "TwoPencils" 312 5 9 := Or.inr ⟨"TwoPencils", in_t2 (List.mem_of_getElem? (i := 99) rfl)⟩
set_option maxRecDepth 100000 in
theorem f_X10_318 : lnk "TwoPencils" 318 1 7 := Or.inr ⟨"TwoPencils", in_t2 (List.mem_of_getElem? (i := 140) rfl)⟩
set_option maxRecDepth 100000 in
theorem f_X10_321 : lnk "TwoPencils" 321 1 6 := Or.inr ⟨"TwoPencils", in_t2 (List.mem_of_getElem? (i := 137) rfl)⟩
set_option maxRecDepth 100000 in
theorem f_X0_9 : lnk "TwoPencils$Cutter" 9 0 0 := Or.inl (in_t2 (List.mem_of_getElem? (i := 16) rfl))
set_option maxRecDepth 100000 in
theorem f_X0_15 : lnk "TwoPencils$Cutter" 15 0 1 := Or.inl (in_t2 (List.mem_of_getElem? (i := 20) rfl))
set_option maxRecDepth 100000 in
theorem f_X0_18 : lnk "TwoPencils$Cutter" 18 0 2 := Or.inl (in_t2 (List.mem_of_getElem? (i := 21) rfl))
set_option maxRecDepth 100000 in
theorem f_X0_21 : lnk "TwoPencils$Cutter" 21 0 3 := Or.inl (in_t2 (List.mem_of_getElem? (i := 22) rfl))
set_option maxRecDepth 100000 in
theorem f_X0_24 : lnk "TwoPencils$Cutter" 24 0 4 := Or.inl (in_t2 (List.mem_of_getElem? (i := 23) rfl))
set_option maxRecDepth 100000 in
theorem f_X0_27 : lnk "TwoPencils$Cutter" 27 0 5 := Or.inl (in_t2 (List.mem_of_getElem? (i := 24) rfl))
set_option maxRecDepth 100000 in
theorem f_X0_31 : lnk "TwoPencils$Cutter" 31 0 6 := Or.inl (in_t2 (List.mem_of_getElem? (i := 25) rfl))
set_option maxRecDepth 100000 in
theorem f_X0_34 : lnk "TwoPencils$Cutter" 34 0 7 := Or.inl (in_t2 (List.mem_of_getElem? (i := 26) rfl))
set_option maxRecDepth 100000 in
theorem f_X0_37 : lnk "TwoPencils$Cutter" 37 0 8 := Or.inl (in_t2 (List.mem_of_getElem? (i := 27) rfl))
set_option maxRecDepth 100000 in
theorem f_X1_11 : lnk "TwoPencils$Game" 11 1 4 := Or.inl (in_t2 (List.mem_of_getElem? (i := 132) rfl))
set_option maxRecDepth 100000 in
theorem f_X1_15 : lnk "TwoPencils$Game" 15 1 5 := Or.inl (in_t2 (List.mem_of_getElem? (i := 133) rfl))
set_option maxRecDepth 100000 in
theorem f_X1_19 : lnk "TwoPencils$Game" 19 1 6 := Or.inl (in_t2 (List.mem_of_getElem? (i := 135) rfl))
set_option maxRecDepth 100000 in
theorem f_X1_22 : lnk "TwoPencils$Game" 22 1 7 := Or.inl (in_t2 (List.mem_of_getElem? (i := 138) rfl))
set_option maxRecDepth 100000 in
theorem f_X1_25 : lnk "TwoPencils$Game" 25 1 8 := Or.inl (in_t2 (List.mem_of_getElem? (i := 141) rfl))
set_option maxRecDepth 100000 in
theorem f_X1_28 : lnk "TwoPencils$Game" 28 1 9 := Or.inl (in_t2 (List.mem_of_getElem? (i := 143) rfl))
set_option maxRecDepth 100000 in
theorem f_X1_31 : lnk "TwoPencils$Game" 31 1 10 := Or.inl (in_t2 (List.mem_of_getElem? (i := 145) rfl))
set_option maxRecDepth 100000 in
theorem f_X1_34 : lnk "TwoPencils$Game" 34 1 11 := Or.inl (in_t2 (List.mem_of_getElem? (i := 148) rfl))
set_option maxRecDepth 100000 in
theorem f_X1_38 : lnk "TwoPencils$Game" 38 1 12 := Or.inl (in_t2 (List.mem_of_getElem? (i := 149) rfl))
set_option maxRecDepth 100000 in
theorem f_X1_41 : lnk "TwoPencils$Game" 41 1 13 := Or.inl (in_t2 (List.mem_of_getElem? (i := 151) rfl))
set_option maxRecDepth 100000 in
theorem f_X1_44 : lnk "TwoPencils$Game" 44 1 14 := Or.inl (in_t2 (List.mem_of_getElem? (i := 152) rfl))
set_option maxRecDepth 100000 in
theorem f_X1_47 : lnk "TwoPencils$Game" 47 1 15 := Or.inl (in_t2 (List.mem_of_getElem? (i := 154) rfl))
set_option maxRecDepth 100000 in
theorem f_X1_50 : lnk "TwoPencils$Game" 50 1 0 := Or.inl (in_t2 (List.mem_of_getElem? (i := 126) rfl))
set_option maxRecDepth 100000 in
theorem f_X1_54 : lnk "TwoPencils$Game" 54 1 1 := Or.inl (in_t2 (List.mem_of_getElem? (i := 127) rfl))
set_option maxRecDepth 100000 in
theorem f_X1_58 : lnk "TwoPencils$Game" 58 1 2 := Or.inl (in_t2 (List.mem_of_getElem? (i := 128) rfl))
set_option maxRecDepth 100000 in
theorem f_X1_62 : lnk "TwoPencils$Game" 62 1 3 := Or.inl (in_t2 (List.mem_of_getElem? (i := 130) rfl))
set_option maxRecDepth 100000 in
theorem f_X1_66 : lnk "TwoPencils$Game" 66 3 4 := Or.inr ⟨"TwoPencils", in_t1 (List.mem_of_getElem? (i := 180) rfl)⟩
set_option maxRecDepth 100000 in
theorem f_X1_71 : lnk "TwoPencils$Game" 71 3 1 := Or.inr ⟨"TwoPencils", in_t1 (List.mem_of_getElem? (i := 172) rfl)⟩
set_option maxRecDepth 100000 in
theorem f_X1_81 : lnk "TwoPencils$Game" 81 6 1 := Or.inr ⟨"TwoPencils", in_t2 (List.mem_of_getElem? (i := 3) rfl)⟩
set_option maxRecDepth 100000 in
theorem f_X1_86 : lnk "TwoPencils$Game" 86 6 0 := Or.inr ⟨"TwoPencils", in_t2 (List.mem_of_getElem? (i := 0) rfl)⟩
set_option maxRecDepth 100000 in
theorem f_X1_95 : lnk "TwoPencils$Game" 95 3 11 := Or.inr ⟨"TwoPencils", in_t1 (List.mem_of_getElem? (i := 193) rfl)⟩
set_option maxRecDepth 100000 in
theorem f_X1_98 : lnk "TwoPencils$Game" 98 3 0 := Or.inr ⟨"TwoPencils", in_t1 (List.mem_of_getElem? (i := 168) rfl)⟩
set_option maxRecDepth 100000 in
theorem f_X1_110 : lnk "TwoPencils$Game" 110 3 10 := Or.inr ⟨"TwoPencils", in_t1 (List.mem_of_getElem? (i := 190) rfl)⟩
set_option maxRecDepth 100000 in
theorem f_X1_114 : lnk "TwoPencils$Game" 114 0 0 := Or.inr ⟨"TwoPencils", in_t2 (List.mem_of_getElem? (i := 17) rfl)⟩
set_option maxRecDepth 100000 in
theorem f_X2_9 : lnk "TwoPencils$Joiner" 9 2 1 := Or.inl (in_t2 (List.mem_of_getElem? (i := 54) rfl))
set_option maxRecDepth 100000 in
theorem f_X2_15 : lnk "TwoPencils$Joiner" 15 2 2 := Or.inl (in_t2 (List.mem_of_getElem? (i := 55) rfl))
set_option maxRecDepth 100000 in
theorem f_X2_19 : lnk "TwoPencils$Joiner" 19 2 3 := Or.inl (in_t2 (List.mem_of_getElem? (i := 56) rfl))
set_option maxRecDepth 100000 in
theorem f_X2_22 : lnk "TwoPencils$Joiner" 22 2 4 := Or.inl (in_t2 (List.mem_of_getElem? (i := 57) rfl))
set_option maxRecDepth 100000 in
theorem f_X2_25 : lnk "TwoPencils$Joiner" 25 2 5 := Or.inl (in_t2 (List.mem_of_getElem? (i := 58) rfl))
set_option maxRecDepth 100000 in
theorem f_X2_28 : lnk "TwoPencils$Joiner" 28 2 6 := Or.inl (in_t2 (List.mem_of_getElem? (i := 59) rfl))
set_option maxRecDepth 100000 in
theorem f_X2_31 : lnk "TwoPencils$Joiner" 31 2 7 := Or.inl (in_t2 (List.mem_of_getElem? (i := 61) rfl))
set_option maxRecDepth 100000 in
theorem f_X2_34 : lnk "TwoPencils$Joiner" 34 2 0 := Or.inl (in_t2 (List.mem_of_getElem? (i := 53) rfl))
set_option maxRecDepth 100000 in
theorem f_X3_9 : lnk "TwoPencils$Land" 9 3 12 := Or.inl (in_t1 (List.mem_of_getElem? (i := 195) rfl))
set_option maxRecDepth 100000 in
theorem f_X3_15 : lnk "TwoPencils$Land" 15 3 14 := Or.inl (in_t1 (List.mem_of_getElem? (i := 197) rfl))
set_option maxRecDepth 100000 in
theorem f_X3_19 : lnk "TwoPencils$Land" 19 3 15 := Or.inl (in_t1 (List.mem_of_getElem? (i := 199) rfl))
set_option maxRecDepth 100000 in
theorem f_X3_22 : lnk "TwoPencils$Land" 22 4 0 := Or.inr ⟨"TwoPencils", in_t1 (List.mem_of_getElem? (i := 59) rfl)⟩
set_option maxRecDepth 100000 in
theorem f_X3_28 : lnk "TwoPencils$Land" 28 3 0 := Or.inl (in_t1 (List.mem_of_getElem? (i := 167) rfl))
set_option maxRecDepth 100000 in
theorem f_X3_29 : lnk "TwoPencils$Land" 29 4 1 := Or.inr ⟨"TwoPencils", in_t1 (List.mem_of_getElem? (i := 61) rfl)⟩
set_option maxRecDepth 100000 in
theorem f_X3_32 : lnk "TwoPencils$Land" 32 3 1 := Or.inl (in_t1 (List.mem_of_getElem? (i := 171) rfl))
set_option maxRecDepth 100000 in
theorem f_X3_33 : lnk "TwoPencils$Land" 33 4 2 := Or.inr ⟨"TwoPencils", in_t1 (List.mem_of_getElem? (i := 63) rfl)⟩
set_option maxRecDepth 100000 in
theorem f_X3_36 : lnk "TwoPencils$Land" 36 3 2 := Or.inl (in_t1 (List.mem_of_getElem? (i := 175) rfl))
set_option maxRecDepth 100000 in
theorem f_X3_37 : lnk "TwoPencils$Land" 37 4 3 := Or.inr ⟨"TwoPencils", in_t1 (List.mem_of_getElem? (i := 65) rfl)⟩
set_option maxRecDepth 100000 in
theorem f_X3_40 : lnk "TwoPencils$Land" 40 3 3 := Or.inl (in_t1 (List.mem_of_getElem? (i := 177) rfl))
set_option maxRecDepth 100000 in
theorem f_X3_41 : lnk "TwoPencils$Land" 41 3 4 := Or.inl (in_t1 (List.mem_of_getElem? (i := 179) rfl))
set_option maxRecDepth 100000 in
theorem f_X3_44 : lnk "TwoPencils$Land" 44 4 4 := Or.inr ⟨"TwoPencils", in_t1 (List.mem_of_getElem? (i := 68) rfl)⟩
set_option maxRecDepth 100000 in
theorem f_X3_52 : lnk "TwoPencils$Land" 52 3 5 := Or.inl (in_t1 (List.mem_of_getElem? (i := 181) rfl))
set_option maxRecDepth 100000 in
theorem f_X3_53 : lnk "TwoPencils$Land" 53 4 5 := Or.inr ⟨"TwoPencils", in_t1 (List.mem_of_getElem? (i := 70) rfl)⟩
set_option maxRecDepth 100000 in
theorem f_X3_56 : lnk "TwoPencils$Land" 56 3 6 := Or.inl (in_t1 (List.mem_of_getElem? (i := 183) rfl))
set_option maxRecDepth 100000 in
theorem f_X3_57 : lnk "TwoPencils$Land" 57 4 6 := Or.inr ⟨"TwoPencils", in_t1 (List.mem_of_getElem? (i := 72) rfl)⟩
set_option maxRecDepth 100000 in
theorem f_X3_60 : lnk "TwoPencils$Land" 60 3 7 := Or.inl (in_t1 (List.mem_of_getElem? (i := 185) rfl))
set_option maxRecDepth 100000 in
theorem f_X3_61 : lnk "TwoPencils$Land" 61 3 8 := Or.inl (in_t1 (List.mem_of_getElem? (i := 187) rfl))
set_option maxRecDepth 100000 in
theorem f_X3_64 : lnk "TwoPencils$Land" 64 3 9 := Or.inl (in_t1 (List.mem_of_getElem? (i := 188) rfl))
set_option maxRecDepth 100000 in
theorem f_X3_68 : lnk "TwoPencils$Land" 68 3 10 := Or.inl (in_t1 (List.mem_of_getElem? (i := 189) rfl))
set_option maxRecDepth 100000 in
theorem f_X3_71 : lnk "TwoPencils$Land" 71 3 11 := Or.inl (in_t1 (List.mem_of_getElem? (i := 192) rfl))
set_option maxRecDepth 100000 in
theorem f_X3_77 : lnk "TwoPencils$Land" 77 3 13 := Or.inl (in_t1 (List.mem_of_getElem? (i := 196) rfl))
set_option maxRecDepth 100000 in
theorem f_X3_102 : lnk "TwoPencils$Land" 102 8 3 := Or.inr ⟨"TwoPencils", in_t1 (List.mem_of_getElem? (i := 140) rfl)⟩
set_option maxRecDepth 100000 in
theorem f_X3_152 : lnk "TwoPencils$Land" 152 8 2 := Or.inr ⟨"TwoPencils", in_t1 (List.mem_of_getElem? (i := 138) rfl)⟩
set_option maxRecDepth 100000 in
theorem f_X3_155 : lnk "TwoPencils$Land" 155 8 0 := Or.inr ⟨"TwoPencils", in_t1 (List.mem_of_getElem? (i := 134) rfl)⟩
set_option maxRecDepth 100000 in
theorem f_X3_193 : lnk "TwoPencils$Land" 193 0 0 := Or.inr ⟨"TwoPencils", in_t2 (List.mem_of_getElem? (i := 19) rfl)⟩
set_option maxRecDepth 100000 in
theorem f_X4_9 : lnk "TwoPencils$LandText" 9 4 4 := Or.inl (in_t1 (List.mem_of_getElem? (i := 67) rfl))
set_option maxRecDepth 100000 in
theorem f_X4_15 : lnk "TwoPencils$LandText" 15 4 5 := Or.inl (in_t1 (List.mem_of_getElem? (i := 69) rfl))
set_option maxRecDepth 100000 in
theorem f_X4_18 : lnk "TwoPencils$LandText" 18 4 6 := Or.inl (in_t1 (List.mem_of_getElem? (i := 71) rfl))
set_option maxRecDepth 100000 in
theorem f_X4_44 : lnk "TwoPencils$LandText" 44 9 3 := Or.inr ⟨"TwoPencils", in_t1 (List.mem_of_getElem? (i := 41) rfl)⟩
set_option maxRecDepth 100000 in
theorem f_X4_48 : lnk "TwoPencils$LandText" 48 4 2 := Or.inl (in_t1 (List.mem_of_getElem? (i := 64) rfl))
set_option maxRecDepth 100000 in
theorem f_X4_51 : lnk "TwoPencils$LandText" 51 4 3 := Or.inl (in_t1 (List.mem_of_getElem? (i := 66) rfl))
set_option maxRecDepth 100000 in
theorem f_X4_64 : lnk "TwoPencils$LandText" 64 4 0 := Or.inl (in_t1 (List.mem_of_getElem? (i := 60) rfl))
set_option maxRecDepth 100000 in
theorem f_X4_73 : lnk "TwoPencils$LandText" 73 4 1 := Or.inl (in_t1 (List.mem_of_getElem? (i := 62) rfl))
set_option maxRecDepth 100000 in
theorem f_X4_87 : lnk "TwoPencils$LandText" 87 9 2 := Or.inr ⟨"TwoPencils", in_t1 (List.mem_of_getElem? (i := 39) rfl)⟩
set_option maxRecDepth 100000 in
theorem f_X5_11 : lnk "TwoPencils$Mind" 11 5 1 := Or.inl (in_t2 (List.mem_of_getElem? (i := 90) rfl))
set_option maxRecDepth 100000 in
theorem f_X5_17 : lnk "TwoPencils$Mind" 17 5 2 := Or.inl (in_t2 (List.mem_of_getElem? (i := 91) rfl))
set_option maxRecDepth 100000 in
theorem f_X5_21 : lnk "TwoPencils$Mind" 21 5 3 := Or.inl (in_t2 (List.mem_of_getElem? (i := 92) rfl))
set_option maxRecDepth 100000 in
theorem f_X5_24 : lnk "TwoPencils$Mind" 24 5 4 := Or.inl (in_t2 (List.mem_of_getElem? (i := 93) rfl))
set_option maxRecDepth 100000 in
theorem f_X5_27 : lnk "TwoPencils$Mind" 27 5 7 := Or.inl (in_t2 (List.mem_of_getElem? (i := 96) rfl))
set_option maxRecDepth 100000 in
theorem f_X5_31 : lnk "TwoPencils$Mind" 31 5 8 := Or.inl (in_t2 (List.mem_of_getElem? (i := 97) rfl))
set_option maxRecDepth 100000 in
theorem f_X5_34 : lnk "TwoPencils$Mind" 34 5 9 := Or.inl (in_t2 (List.mem_of_getElem? (i := 98) rfl))
set_option maxRecDepth 100000 in
theorem f_X5_37 : lnk "TwoPencils$Mind" 37 5 0 := Or.inl (in_t2 (List.mem_of_getElem? (i := 89) rfl))
set_option maxRecDepth 100000 in
theorem f_X5_41 : lnk "TwoPencils$Mind" 41 5 5 := Or.inl (in_t2 (List.mem_of_getElem? (i := 94) rfl))
set_option maxRecDepth 100000 in
theorem f_X5_45 : lnk "TwoPencils$Mind" 45 5 6 := Or.inl (in_t2 (List.mem_of_getElem? (i := 95) rfl))
set_option maxRecDepth 100000 in
theorem f_X5_56 : lnk "TwoPencils$Mind" 56 3 1 := Or.inr ⟨"TwoPencils", in_t1 (List.mem_of_getElem? (i := 173) rfl)⟩
set_option maxRecDepth 100000 in
theorem f_X5_61 : lnk "TwoPencils$Mind" 61 6 1 := Or.inr ⟨"TwoPencils", in_t2 (List.mem_of_getElem? (i := 4) rfl)⟩
set_option maxRecDepth 100000 in
theorem f_X5_66 : lnk "TwoPencils$Mind" 66 1 6 := Or.inr ⟨"TwoPencils", in_t2 (List.mem_of_getElem? (i := 136) rfl)⟩
set_option maxRecDepth 100000 in
theorem f_X5_71 : lnk "TwoPencils$Mind" 71 1 7 := Or.inr ⟨"TwoPencils", in_t2 (List.mem_of_getElem? (i := 139) rfl)⟩
set_option maxRecDepth 100000 in
theorem f_X5_78 : lnk "TwoPencils$Mind" 78 1 9 := Or.inr ⟨"TwoPencils", in_t2 (List.mem_of_getElem? (i := 144) rfl)⟩
set_option maxRecDepth 100000 in
theorem f_X5_85 : lnk "TwoPencils$Mind" 85 1 10 := Or.inr ⟨"TwoPencils", in_t2 (List.mem_of_getElem? (i := 146) rfl)⟩
set_option maxRecDepth 100000 in
theorem f_X5_88 : lnk "TwoPencils$Mind" 88 1 12 := Or.inr ⟨"TwoPencils", in_t2 (List.mem_of_getElem? (i := 150) rfl)⟩
set_option maxRecDepth 100000 in
theorem f_X5_91 : lnk "TwoPencils$Mind" 91 1 8 := Or.inr ⟨"TwoPencils", in_t2 (List.mem_of_getElem? (i := 142) rfl)⟩
set_option maxRecDepth 100000 in
theorem f_X5_120 : lnk "TwoPencils$Mind" 120 6 0 := Or.inr ⟨"TwoPencils", in_t2 (List.mem_of_getElem? (i := 1) rfl)⟩
set_option maxRecDepth 100000 in
theorem f_X5_135 : lnk "TwoPencils$Mind" 135 3 11 := Or.inr ⟨"TwoPencils", in_t1 (List.mem_of_getElem? (i := 194) rfl)⟩
set_option maxRecDepth 100000 in
theorem f_X5_138 : lnk "TwoPencils$Mind" 138 3 0 := Or.inr ⟨"TwoPencils", in_t1 (List.mem_of_getElem? (i := 170) rfl)⟩
set_option maxRecDepth 100000 in
theorem f_X5_153 : lnk "TwoPencils$Mind" 153 0 0 := Or.inr ⟨"TwoPencils", in_t2 (List.mem_of_getElem? (i := 18) rfl)⟩
set_option maxRecDepth 100000 in
theorem f_X5_166 : lnk "TwoPencils$Mind" 166 3 10 := Or.inr ⟨"TwoPencils", in_t1 (List.mem_of_getElem? (i := 191) rfl)⟩
set_option maxRecDepth 100000 in
theorem f_X5_175 : lnk "TwoPencils$Mind" 175 2 7 := Or.inr ⟨"TwoPencils", in_t2 (List.mem_of_getElem? (i := 62) rfl)⟩
set_option maxRecDepth 100000 in
theorem f_X5_177 : lnk "TwoPencils$Mind" 177 2 6 := Or.inr ⟨"TwoPencils", in_t2 (List.mem_of_getElem? (i := 60) rfl)⟩
set_option maxRecDepth 100000 in
theorem f_X5_187 : lnk "TwoPencils$Mind" 187 1 14 := Or.inr ⟨"TwoPencils", in_t2 (List.mem_of_getElem? (i := 153) rfl)⟩
set_option maxRecDepth 100000 in
theorem f_X5_194 : lnk "TwoPencils$Mind" 194 1 15 := Or.inr ⟨"TwoPencils", in_t2 (List.mem_of_getElem? (i := 155) rfl)⟩
set_option maxRecDepth 100000 in
theorem f_X6_9 : lnk "TwoPencils$Protocol" 9 6 0 := Or.inl (in_t1 (List.mem_of_getElem? (i := 239) rfl))
set_option maxRecDepth 100000 in
theorem f_X6_15 : lnk "TwoPencils$Protocol" 15 6 1 := Or.inl (in_t2 (List.mem_of_getElem? (i := 2) rfl))
set_option maxRecDepth 100000 in
theorem f_X6_18 : lnk "TwoPencils$Protocol" 18 7 0 := Or.inr ⟨"TwoPencils", in_t1 (List.mem_of_getElem? (i := 95) rfl)⟩
set_option maxRecDepth 100000 in
theorem f_X6_24 : lnk "TwoPencils$Protocol" 24 7 1 := Or.inr ⟨"TwoPencils", in_t1 (List.mem_of_getElem? (i := 98) rfl)⟩
set_option maxRecDepth 100000 in
theorem f_X6_25 : lnk "TwoPencils$Protocol" 25 7 2 := Or.inr ⟨"TwoPencils", in_t1 (List.mem_of_getElem? (i := 100) rfl)⟩
set_option maxRecDepth 100000 in
theorem f_X7_9 : lnk "TwoPencils$ProtocolText" 9 7 1 := Or.inl (in_t1 (List.mem_of_getElem? (i := 97) rfl))
set_option maxRecDepth 100000 in
theorem f_X7_15 : lnk "TwoPencils$ProtocolText" 15 7 2 := Or.inl (in_t1 (List.mem_of_getElem? (i := 99) rfl))
set_option maxRecDepth 100000 in
theorem f_X7_18 : lnk "TwoPencils$ProtocolText" 18 7 0 := Or.inl (in_t1 (List.mem_of_getElem? (i := 96) rfl))
set_option maxRecDepth 100000 in
theorem f_X7_39 : lnk "TwoPencils$ProtocolText" 39 9 3 := Or.inr ⟨"TwoPencils", in_t1 (List.mem_of_getElem? (i := 42) rfl)⟩
set_option maxRecDepth 100000 in
theorem f_X7_46 : lnk "TwoPencils$ProtocolText" 46 9 2 := Or.inr ⟨"TwoPencils", in_t1 (List.mem_of_getElem? (i := 38) rfl)⟩
set_option maxRecDepth 100000 in
theorem f_X8_9 : lnk "TwoPencils$Roll" 9 8 0 := Or.inl (in_t1 (List.mem_of_getElem? (i := 132) rfl))
set_option maxRecDepth 100000 in
theorem f_X8_15 : lnk "TwoPencils$Roll" 15 8 1 := Or.inl (in_t1 (List.mem_of_getElem? (i := 135) rfl))
set_option maxRecDepth 100000 in
theorem f_X8_18 : lnk "TwoPencils$Roll" 18 8 2 := Or.inl (in_t1 (List.mem_of_getElem? (i := 136) rfl))
set_option maxRecDepth 100000 in
theorem f_X8_22 : lnk "TwoPencils$Roll" 22 8 3 := Or.inl (in_t1 (List.mem_of_getElem? (i := 139) rfl))
set_option maxRecDepth 100000 in
theorem f_X9_9 : lnk "TwoPencils$Tape" 9 9 0 := Or.inl (in_t1 (List.mem_of_getElem? (i := 34) rfl))
set_option maxRecDepth 100000 in
theorem f_X9_15 : lnk "TwoPencils$Tape" 15 9 1 := Or.inl (in_t1 (List.mem_of_getElem? (i := 35) rfl))
set_option maxRecDepth 100000 in
theorem f_X9_19 : lnk "TwoPencils$Tape" 19 9 2 := Or.inl (in_t1 (List.mem_of_getElem? (i := 37) rfl))
set_option maxRecDepth 100000 in
theorem f_X9_22 : lnk "TwoPencils$Tape" 22 9 3 := Or.inl (in_t1 (List.mem_of_getElem? (i := 40) rfl))
set_option maxRecDepth 100000 in
theorem f_X11_7 : lnk "TwoPencilsModel" 7 11 1 := Or.inl (in_t5 (List.mem_of_getElem? (i := 206) rfl))
set_option maxRecDepth 100000 in
theorem f_X11_13 : lnk "TwoPencilsModel" 13 11 5 := Or.inl (in_t5 (List.mem_of_getElem? (i := 210) rfl))
set_option maxRecDepth 100000 in
theorem f_X11_16 : lnk "TwoPencilsModel" 16 11 6 := Or.inl (in_t5 (List.mem_of_getElem? (i := 211) rfl))
set_option maxRecDepth 100000 in
theorem f_X11_19 : lnk "TwoPencilsModel" 19 11 7 := Or.inl (in_t5 (List.mem_of_getElem? (i := 212) rfl))
set_option maxRecDepth 100000 in
theorem f_X11_22 : lnk "TwoPencilsModel" 22 11 8 := Or.inl (in_t5 (List.mem_of_getElem? (i := 213) rfl))
set_option maxRecDepth 100000 in
theorem f_X11_25 : lnk "TwoPencilsModel" 25 11 9 := Or.inl (in_t5 (List.mem_of_getElem? (i := 214) rfl))
set_option maxRecDepth 100000 in
theorem f_X11_28 : lnk "TwoPencilsModel" 28 11 10 := Or.inl (in_t5 (List.mem_of_getElem? (i := 215) rfl))
set_option maxRecDepth 100000 in
theorem f_X11_31 : lnk "TwoPencilsModel" 31 11 11 := Or.inl (in_t5 (List.mem_of_getElem? (i := 216) rfl))
set_option maxRecDepth 100000 in
theorem f_X11_34 : lnk "TwoPencilsModel" 34 11 13 := Or.inl (in_t5 (List.mem_of_getElem? (i := 218) rfl))
set_option maxRecDepth 100000 in
theorem f_X11_37 : lnk "TwoPencilsModel" 37 11 14 := Or.inl (in_t5 (List.mem_of_getElem? (i := 219) rfl))
set_option maxRecDepth 100000 in
theorem f_X11_40 : lnk "TwoPencilsModel" 40 11 15 := Or.inl (in_t5 (List.mem_of_getElem? (i := 220) rfl))
set_option maxRecDepth 100000 in
theorem f_X11_43 : lnk "TwoPencilsModel" 43 11 17 := Or.inl (in_t5 (List.mem_of_getElem? (i := 222) rfl))
set_option maxRecDepth 100000 in
theorem f_X11_46 : lnk "TwoPencilsModel" 46 11 18 := Or.inl (in_t5 (List.mem_of_getElem? (i := 223) rfl))
set_option maxRecDepth 100000 in
theorem f_X11_50 : lnk "TwoPencilsModel" 50 11 20 := Or.inl (in_t5 (List.mem_of_getElem? (i := 225) rfl))
set_option maxRecDepth 100000 in
theorem f_X11_53 : lnk "TwoPencilsModel" 53 11 21 := Or.inl (in_t5 (List.mem_of_getElem? (i := 226) rfl))
set_option maxRecDepth 100000 in
theorem f_X11_56 : lnk "TwoPencilsModel" 56 11 23 := Or.inl (in_t5 (List.mem_of_getElem? (i := 228) rfl))
set_option maxRecDepth 100000 in
theorem f_X11_59 : lnk "TwoPencilsModel" 59 11 33 := Or.inl (in_t5 (List.mem_of_getElem? (i := 238) rfl))
set_option maxRecDepth 100000 in
theorem f_X11_62 : lnk "TwoPencilsModel" 62 11 34 := Or.inl (in_t5 (List.mem_of_getElem? (i := 239) rfl))
set_option maxRecDepth 100000 in
theorem f_X11_65 : lnk "TwoPencilsModel" 65 11 43 := Or.inl (in_t6 (List.mem_of_getElem? (i := 8) rfl))
set_option maxRecDepth 100000 in
theorem f_X11_68 : lnk "TwoPencilsModel" 68 11 44 := Or.inl (in_t6 (List.mem_of_getElem? (i := 9) rfl))
set_option maxRecDepth 100000 in
theorem f_X11_72 : lnk "TwoPencilsModel" 72 11 45 := Or.inl (in_t6 (List.mem_of_getElem? (i := 10) rfl))
set_option maxRecDepth 100000 in
theorem f_X11_75 : lnk "TwoPencilsModel" 75 11 46 := Or.inl (in_t6 (List.mem_of_getElem? (i := 11) rfl))
set_option maxRecDepth 100000 in
theorem f_X11_78 : lnk "TwoPencilsModel" 78 11 47 := Or.inl (in_t6 (List.mem_of_getElem? (i := 12) rfl))
set_option maxRecDepth 100000 in
theorem f_X11_81 : lnk "TwoPencilsModel" 81 11 48 := Or.inl (in_t6 (List.mem_of_getElem? (i := 13) rfl))
set_option maxRecDepth 100000 in
theorem f_X11_84 : lnk "TwoPencilsModel" 84 11 49 := Or.inl (in_t6 (List.mem_of_getElem? (i := 14) rfl))
set_option maxRecDepth 100000 in
theorem f_X11_87 : lnk "TwoPencilsModel" 87 11 50 := Or.inl (in_t6 (List.mem_of_getElem? (i := 15) rfl))
set_option maxRecDepth 100000 in
theorem f_X11_90 : lnk "TwoPencilsModel" 90 11 52 := Or.inl (in_t6 (List.mem_of_getElem? (i := 17) rfl))
set_option maxRecDepth 100000 in
theorem f_X11_93 : lnk "TwoPencilsModel" 93 11 53 := Or.inl (in_t6 (List.mem_of_getElem? (i := 18) rfl))
set_option maxRecDepth 100000 in
theorem f_X11_96 : lnk "TwoPencilsModel" 96 11 0 := Or.inl (in_t5 (List.mem_of_getElem? (i := 205) rfl))
set_option maxRecDepth 100000 in
theorem f_X11_104 : lnk "TwoPencilsModel" 104 11 2 := Or.inl (in_t5 (List.mem_of_getElem? (i := 207) rfl))
set_option maxRecDepth 100000 in
theorem f_X11_107 : lnk "TwoPencilsModel" 107 11 3 := Or.inl (in_t5 (List.mem_of_getElem? (i := 208) rfl))
set_option maxRecDepth 100000 in
theorem f_X11_110 : lnk "TwoPencilsModel" 110 11 4 := Or.inl (in_t5 (List.mem_of_getElem? (i := 209) rfl))
set_option maxRecDepth 100000 in
theorem f_X11_162 : lnk "TwoPencilsModel" 162 11 12 := Or.inl (in_t5 (List.mem_of_getElem? (i := 217) rfl))
set_option maxRecDepth 100000 in
theorem f_X11_165 : lnk "TwoPencilsModel" 165 11 16 := Or.inl (in_t5 (List.mem_of_getElem? (i := 221) rfl))
set_option maxRecDepth 100000 in
theorem f_X11_184 : lnk "TwoPencilsModel" 184 11 19 := Or.inl (in_t5 (List.mem_of_getElem? (i := 224) rfl))
set_option maxRecDepth 100000 in
theorem f_X11_202 : lnk "TwoPencilsModel" 202 11 22 := Or.inl (in_t5 (List.mem_of_getElem? (i := 227) rfl))
set_option maxRecDepth 100000 in
theorem f_X11_273 : lnk "TwoPencilsModel" 273 11 24 := Or.inl (in_t5 (List.mem_of_getElem? (i := 229) rfl))
set_option maxRecDepth 100000 in
theorem f_X11_276 : lnk "TwoPencilsModel" 276 11 28 := Or.inl (in_t5 (List.mem_of_getElem? (i := 233) rfl))
set_option maxRecDepth 100000 in
theorem f_X11_279 : lnk "TwoPencilsModel" 279 11 25 := Or.inl (in_t5 (List.mem_of_getElem? (i := 230) rfl))
set_option maxRecDepth 100000 in
theorem f_X11_282 : lnk "TwoPencilsModel" 282 11 26 := Or.inl (in_t5 (List.mem_of_getElem? (i := 231) rfl))
set_option maxRecDepth 100000 in
theorem f_X11_285 : lnk "TwoPencilsModel" 285 11 27 := Or.inl (in_t5 (List.mem_of_getElem? (i := 232) rfl))
set_option maxRecDepth 100000 in
theorem f_X11_288 : lnk "TwoPencilsModel" 288 11 32 := Or.inl (in_t5 (List.mem_of_getElem? (i := 237) rfl))
set_option maxRecDepth 100000 in
theorem f_X11_300 : lnk "TwoPencilsModel" 300 11 29 := Or.inl (in_t5 (List.mem_of_getElem? (i := 234) rfl))
set_option maxRecDepth 100000 in
theorem f_X11_318 : lnk "TwoPencilsModel" 318 11 30 := Or.inl (in_t5 (List.mem_of_getElem? (i := 235) rfl))
set_option maxRecDepth 100000 in
theorem f_X11_328 : lnk "TwoPencilsModel" 328 11 31 := Or.inl (in_t5 (List.mem_of_getElem? (i := 236) rfl))
set_option maxRecDepth 100000 in
theorem f_X11_346 : lnk "TwoPencilsModel" 346 11 35 := Or.inl (in_t6 (List.mem_of_getElem? (i := 0) rfl))
set_option maxRecDepth 100000 in
theorem f_X11_349 : lnk "TwoPencilsModel" 349 11 42 := Or.inl (in_t6 (List.mem_of_getElem? (i := 7) rfl))
set_option maxRecDepth 100000 in
theorem f_X11_360 : lnk "TwoPencilsModel" 360 11 37 := Or.inl (in_t6 (List.mem_of_getElem? (i := 2) rfl))
set_option maxRecDepth 100000 in
theorem f_X11_366 : lnk "TwoPencilsModel" 366 11 38 := Or.inl (in_t6 (List.mem_of_getElem? (i := 3) rfl))
set_option maxRecDepth 100000 in
theorem f_X11_369 : lnk "TwoPencilsModel" 369 11 39 := Or.inl (in_t6 (List.mem_of_getElem? (i := 4) rfl))
set_option maxRecDepth 100000 in
theorem f_X11_378 : lnk "TwoPencilsModel" 378 11 36 := Or.inl (in_t6 (List.mem_of_getElem? (i := 1) rfl))
set_option maxRecDepth 100000 in
theorem f_X11_411 : lnk "TwoPencilsModel" 411 11 40 := Or.inl (in_t6 (List.mem_of_getElem? (i := 5) rfl))
set_option maxRecDepth 100000 in
theorem f_X11_414 : lnk "TwoPencilsModel" 414 11 41 := Or.inl (in_t6 (List.mem_of_getElem? (i := 6) rfl))
set_option maxRecDepth 100000 in
theorem f_X11_436 : lnk "TwoPencilsModel" 436 11 51 := Or.inl (in_t6 (List.mem_of_getElem? (i := 16) rfl))
set_option maxRecDepth 100000 in
theorem l_X10_10 : Cond.fieldLink "TwoPencils" 10 (nmC 10) (TC 10 0).2.1 (TC 10 0).2.2.1 ∈ lw_tbl := in_t2 (List.mem_of_getElem? (i := 192) rfl)
set_option maxRecDepth 100000 in
theorem l_X10_19 : Cond.fieldLink "TwoPencils" 19 (nmC 10) (TC 10 1).2.1 (TC 10 1).2.2.1 ∈ lw_tbl := in_t2 (List.mem_of_getElem? (i := 193) rfl)
set_option maxRecDepth 100000 in
theorem l_X10_26 : Cond.fieldLink "TwoPencils" 26 (nmC 10) (TC 10 2).2.1 (TC 10 2).2.2.1 ∈ lw_tbl := in_t2 (List.mem_of_getElem? (i := 194) rfl)
set_option maxRecDepth 100000 in
theorem l_X10_32 : Cond.fieldLink "TwoPencils" 32 (nmC 10) (TC 10 3).2.1 (TC 10 3).2.2.1 ∈ lw_tbl := in_t2 (List.mem_of_getElem? (i := 195) rfl)
set_option maxRecDepth 100000 in
theorem l_X10_38 : Cond.fieldLink "TwoPencils" 38 (nmC 10) (TC 10 4).2.1 (TC 10 4).2.2.1 ∈ lw_tbl := in_t2 (List.mem_of_getElem? (i := 196) rfl)
set_option maxRecDepth 100000 in
theorem l_X10_44 : Cond.fieldLink "TwoPencils" 44 (nmC 10) (TC 10 5).2.1 (TC 10 5).2.2.1 ∈ lw_tbl := in_t2 (List.mem_of_getElem? (i := 197) rfl)
set_option maxRecDepth 100000 in
theorem l_X10_61 : Cond.fieldLink "TwoPencils" 61 (nmC 10) (TC 10 9).2.1 (TC 10 9).2.2.1 ∈ lw_tbl := in_t2 (List.mem_of_getElem? (i := 201) rfl)
set_option maxRecDepth 100000 in
theorem l_X10_68 : Cond.fieldLink "TwoPencils" 68 (nmC 10) (TC 10 10).2.1 (TC 10 10).2.2.1 ∈ lw_tbl := in_t2 (List.mem_of_getElem? (i := 202) rfl)
set_option maxRecDepth 100000 in
theorem l_X10_75 : Cond.fieldLink "TwoPencils" 75 (nmC 10) (TC 10 11).2.1 (TC 10 11).2.2.1 ∈ lw_tbl := in_t2 (List.mem_of_getElem? (i := 203) rfl)
set_option maxRecDepth 100000 in
theorem l_X10_84 : Cond.fieldLink "TwoPencils" 84 (nmC 10) (TC 10 12).2.1 (TC 10 12).2.2.1 ∈ lw_tbl := in_t2 (List.mem_of_getElem? (i := 204) rfl)
set_option maxRecDepth 100000 in
theorem l_X10_93 : Cond.fieldLink "TwoPencils" 93 (nmC 10) (TC 10 13).2.1 (TC 10 13).2.2.1 ∈ lw_tbl := in_t2 (List.mem_of_getElem? (i := 205) rfl)
set_option maxRecDepth 100000 in
theorem l_X10_100 : Cond.fieldLink "TwoPencils" 100 (nmC 10) (TC 10 14).2.1 (TC 10 14).2.2.1 ∈ lw_tbl := in_t2 (List.mem_of_getElem? (i := 206) rfl)
set_option maxRecDepth 100000 in
theorem l_X10_104 : Cond.fieldLink "TwoPencils" 104 (nmC 10) (TC 10 15).2.1 (TC 10 15).2.2.1 ∈ lw_tbl := in_t2 (List.mem_of_getElem? (i := 207) rfl)
set_option maxRecDepth 100000 in
theorem l_X10_108 : Cond.fieldLink "TwoPencils" 108 (nmC 10) (TC 10 16).2.1 (TC 10 16).2.2.1 ∈ lw_tbl := in_t2 (List.mem_of_getElem? (i := 208) rfl)
set_option maxRecDepth 100000 in
theorem l_X10_111 : Cond.fieldLink "TwoPencils" 111 (nmC 10) (TC 10 17).2.1 (TC 10 17).2.2.1 ∈ lw_tbl := in_t2 (List.mem_of_getElem? (i := 209) rfl)
set_option maxRecDepth 100000 in
theorem l_X0_9 : Cond.fieldLink "TwoPencils$Cutter" 9 (nmC 0) (TC 0 0).2.1 (TC 0 0).2.2.1 ∈ lw_tbl := in_t2 (List.mem_of_getElem? (i := 16) rfl)
set_option maxRecDepth 100000 in
theorem l_X0_15 : Cond.fieldLink "TwoPencils$Cutter" 15 (nmC 0) (TC 0 1).2.1 (TC 0 1).2.2.1 ∈ lw_tbl := in_t2 (List.mem_of_getElem? (i := 20) rfl)
set_option maxRecDepth 100000 in
theorem l_X0_18 : Cond.fieldLink "TwoPencils$Cutter" 18 (nmC 0) (TC 0 2).2.1 (TC 0 2).2.2.1 ∈ lw_tbl := in_t2 (List.mem_of_getElem? (i := 21) rfl)
set_option maxRecDepth 100000 in
theorem l_X0_21 : Cond.fieldLink "TwoPencils$Cutter" 21 (nmC 0) (TC 0 3).2.1 (TC 0 3).2.2.1 ∈ lw_tbl := in_t2 (List.mem_of_getElem? (i := 22) rfl)
set_option maxRecDepth 100000 in
theorem l_X1_11 : Cond.fieldLink "TwoPencils$Game" 11 (nmC 1) (TC 1 4).2.1 (TC 1 4).2.2.1 ∈ lw_tbl := in_t2 (List.mem_of_getElem? (i := 132) rfl)
set_option maxRecDepth 100000 in
theorem l_X1_19 : Cond.fieldLink "TwoPencils$Game" 19 (nmC 1) (TC 1 6).2.1 (TC 1 6).2.2.1 ∈ lw_tbl := in_t2 (List.mem_of_getElem? (i := 135) rfl)
set_option maxRecDepth 100000 in
theorem l_X1_38 : Cond.fieldLink "TwoPencils$Game" 38 (nmC 1) (TC 1 12).2.1 (TC 1 12).2.2.1 ∈ lw_tbl := in_t2 (List.mem_of_getElem? (i := 149) rfl)
set_option maxRecDepth 100000 in
theorem l_X1_41 : Cond.fieldLink "TwoPencils$Game" 41 (nmC 1) (TC 1 13).2.1 (TC 1 13).2.2.1 ∈ lw_tbl := in_t2 (List.mem_of_getElem? (i := 151) rfl)
set_option maxRecDepth 100000 in
theorem l_X1_50 : Cond.fieldLink "TwoPencils$Game" 50 (nmC 1) (TC 1 0).2.1 (TC 1 0).2.2.1 ∈ lw_tbl := in_t2 (List.mem_of_getElem? (i := 126) rfl)
set_option maxRecDepth 100000 in
theorem l_X1_54 : Cond.fieldLink "TwoPencils$Game" 54 (nmC 1) (TC 1 1).2.1 (TC 1 1).2.2.1 ∈ lw_tbl := in_t2 (List.mem_of_getElem? (i := 127) rfl)
set_option maxRecDepth 100000 in
theorem l_X2_25 : Cond.fieldLink "TwoPencils$Joiner" 25 (nmC 2) (TC 2 5).2.1 (TC 2 5).2.2.1 ∈ lw_tbl := in_t2 (List.mem_of_getElem? (i := 58) rfl)
set_option maxRecDepth 100000 in
theorem l_X3_9 : Cond.fieldLink "TwoPencils$Land" 9 (nmC 3) (TC 3 12).2.1 (TC 3 12).2.2.1 ∈ lw_tbl := in_t1 (List.mem_of_getElem? (i := 195) rfl)
set_option maxRecDepth 100000 in
theorem l_X3_28 : Cond.fieldLink "TwoPencils$Land" 28 (nmC 3) (TC 3 0).2.1 (TC 3 0).2.2.1 ∈ lw_tbl := in_t1 (List.mem_of_getElem? (i := 167) rfl)
set_option maxRecDepth 100000 in
theorem l_X3_32 : Cond.fieldLink "TwoPencils$Land" 32 (nmC 3) (TC 3 1).2.1 (TC 3 1).2.2.1 ∈ lw_tbl := in_t1 (List.mem_of_getElem? (i := 171) rfl)
set_option maxRecDepth 100000 in
theorem l_X3_36 : Cond.fieldLink "TwoPencils$Land" 36 (nmC 3) (TC 3 2).2.1 (TC 3 2).2.2.1 ∈ lw_tbl := in_t1 (List.mem_of_getElem? (i := 175) rfl)
set_option maxRecDepth 100000 in
theorem l_X3_40 : Cond.fieldLink "TwoPencils$Land" 40 (nmC 3) (TC 3 3).2.1 (TC 3 3).2.2.1 ∈ lw_tbl := in_t1 (List.mem_of_getElem? (i := 177) rfl)
set_option maxRecDepth 100000 in
theorem l_X3_41 : Cond.fieldLink "TwoPencils$Land" 41 (nmC 3) (TC 3 4).2.1 (TC 3 4).2.2.1 ∈ lw_tbl := in_t1 (List.mem_of_getElem? (i := 179) rfl)
set_option maxRecDepth 100000 in
theorem l_X3_52 : Cond.fieldLink "TwoPencils$Land" 52 (nmC 3) (TC 3 5).2.1 (TC 3 5).2.2.1 ∈ lw_tbl := in_t1 (List.mem_of_getElem? (i := 181) rfl)
set_option maxRecDepth 100000 in
theorem l_X3_56 : Cond.fieldLink "TwoPencils$Land" 56 (nmC 3) (TC 3 6).2.1 (TC 3 6).2.2.1 ∈ lw_tbl := in_t1 (List.mem_of_getElem? (i := 183) rfl)
set_option maxRecDepth 100000 in
theorem l_X3_60 : Cond.fieldLink "TwoPencils$Land" 60 (nmC 3) (TC 3 7).2.1 (TC 3 7).2.2.1 ∈ lw_tbl := in_t1 (List.mem_of_getElem? (i := 185) rfl)
set_option maxRecDepth 100000 in
theorem l_X3_61 : Cond.fieldLink "TwoPencils$Land" 61 (nmC 3) (TC 3 8).2.1 (TC 3 8).2.2.1 ∈ lw_tbl := in_t1 (List.mem_of_getElem? (i := 187) rfl)
set_option maxRecDepth 100000 in
theorem l_X3_64 : Cond.fieldLink "TwoPencils$Land" 64 (nmC 3) (TC 3 9).2.1 (TC 3 9).2.2.1 ∈ lw_tbl := in_t1 (List.mem_of_getElem? (i := 188) rfl)
set_option maxRecDepth 100000 in
theorem l_X3_68 : Cond.fieldLink "TwoPencils$Land" 68 (nmC 3) (TC 3 10).2.1 (TC 3 10).2.2.1 ∈ lw_tbl := in_t1 (List.mem_of_getElem? (i := 189) rfl)
set_option maxRecDepth 100000 in
theorem l_X3_71 : Cond.fieldLink "TwoPencils$Land" 71 (nmC 3) (TC 3 11).2.1 (TC 3 11).2.2.1 ∈ lw_tbl := in_t1 (List.mem_of_getElem? (i := 192) rfl)
set_option maxRecDepth 100000 in
theorem l_X3_77 : Cond.fieldLink "TwoPencils$Land" 77 (nmC 3) (TC 3 13).2.1 (TC 3 13).2.2.1 ∈ lw_tbl := in_t1 (List.mem_of_getElem? (i := 196) rfl)
set_option maxRecDepth 100000 in
theorem l_X4_9 : Cond.fieldLink "TwoPencils$LandText" 9 (nmC 4) (TC 4 4).2.1 (TC 4 4).2.2.1 ∈ lw_tbl := in_t1 (List.mem_of_getElem? (i := 67) rfl)
set_option maxRecDepth 100000 in
theorem l_X4_15 : Cond.fieldLink "TwoPencils$LandText" 15 (nmC 4) (TC 4 5).2.1 (TC 4 5).2.2.1 ∈ lw_tbl := in_t1 (List.mem_of_getElem? (i := 69) rfl)
set_option maxRecDepth 100000 in
theorem l_X4_18 : Cond.fieldLink "TwoPencils$LandText" 18 (nmC 4) (TC 4 6).2.1 (TC 4 6).2.2.1 ∈ lw_tbl := in_t1 (List.mem_of_getElem? (i := 71) rfl)
set_option maxRecDepth 100000 in
theorem l_X5_11 : Cond.fieldLink "TwoPencils$Mind" 11 (nmC 5) (TC 5 1).2.1 (TC 5 1).2.2.1 ∈ lw_tbl := in_t2 (List.mem_of_getElem? (i := 90) rfl)
set_option maxRecDepth 100000 in
theorem l_X5_17 : Cond.fieldLink "TwoPencils$Mind" 17 (nmC 5) (TC 5 2).2.1 (TC 5 2).2.2.1 ∈ lw_tbl := in_t2 (List.mem_of_getElem? (i := 91) rfl)
set_option maxRecDepth 100000 in
theorem l_X5_21 : Cond.fieldLink "TwoPencils$Mind" 21 (nmC 5) (TC 5 3).2.1 (TC 5 3).2.2.1 ∈ lw_tbl := in_t2 (List.mem_of_getElem? (i := 92) rfl)
set_option maxRecDepth 100000 in
theorem l_X5_24 : Cond.fieldLink "TwoPencils$Mind" 24 (nmC 5) (TC 5 4).2.1 (TC 5 4).2.2.1 ∈ lw_tbl := in_t2 (List.mem_of_getElem? (i := 93) rfl)
set_option maxRecDepth 100000 in
theorem l_X5_37 : Cond.fieldLink "TwoPencils$Mind" 37 (nmC 5) (TC 5 0).2.1 (TC 5 0).2.2.1 ∈ lw_tbl := in_t2 (List.mem_of_getElem? (i := 89) rfl)
set_option maxRecDepth 100000 in
theorem l_X6_9 : Cond.fieldLink "TwoPencils$Protocol" 9 (nmC 6) (TC 6 0).2.1 (TC 6 0).2.2.1 ∈ lw_tbl := in_t1 (List.mem_of_getElem? (i := 239) rfl)
set_option maxRecDepth 100000 in
theorem l_X6_15 : Cond.fieldLink "TwoPencils$Protocol" 15 (nmC 6) (TC 6 1).2.1 (TC 6 1).2.2.1 ∈ lw_tbl := in_t2 (List.mem_of_getElem? (i := 2) rfl)
set_option maxRecDepth 100000 in
theorem l_X7_9 : Cond.fieldLink "TwoPencils$ProtocolText" 9 (nmC 7) (TC 7 1).2.1 (TC 7 1).2.2.1 ∈ lw_tbl := in_t1 (List.mem_of_getElem? (i := 97) rfl)
set_option maxRecDepth 100000 in
theorem l_X7_15 : Cond.fieldLink "TwoPencils$ProtocolText" 15 (nmC 7) (TC 7 2).2.1 (TC 7 2).2.2.1 ∈ lw_tbl := in_t1 (List.mem_of_getElem? (i := 99) rfl)
set_option maxRecDepth 100000 in
theorem l_X9_9 : Cond.fieldLink "TwoPencils$Tape" 9 (nmC 9) (TC 9 0).2.1 (TC 9 0).2.2.1 ∈ lw_tbl := in_t1 (List.mem_of_getElem? (i := 34) rfl)
set_option maxRecDepth 100000 in
theorem l_X11_7 : Cond.fieldLink "TwoPencilsModel" 7 (nmC 11) (TC 11 1).2.1 (TC 11 1).2.2.1 ∈ lw_tbl := in_t5 (List.mem_of_getElem? (i := 206) rfl)
set_option maxRecDepth 100000 in
theorem l_X11_13 : Cond.fieldLink "TwoPencilsModel" 13 (nmC 11) (TC 11 5).2.1 (TC 11 5).2.2.1 ∈ lw_tbl := in_t5 (List.mem_of_getElem? (i := 210) rfl)
set_option maxRecDepth 100000 in
theorem l_X11_16 : Cond.fieldLink "TwoPencilsModel" 16 (nmC 11) (TC 11 6).2.1 (TC 11 6).2.2.1 ∈ lw_tbl := in_t5 (List.mem_of_getElem? (i := 211) rfl)
set_option maxRecDepth 100000 in
theorem l_X11_19 : Cond.fieldLink "TwoPencilsModel" 19 (nmC 11) (TC 11 7).2.1 (TC 11 7).2.2.1 ∈ lw_tbl := in_t5 (List.mem_of_getElem? (i := 212) rfl)
set_option maxRecDepth 100000 in
theorem l_X11_22 : Cond.fieldLink "TwoPencilsModel" 22 (nmC 11) (TC 11 8).2.1 (TC 11 8).2.2.1 ∈ lw_tbl := in_t5 (List.mem_of_getElem? (i := 213) rfl)
set_option maxRecDepth 100000 in
theorem l_X11_25 : Cond.fieldLink "TwoPencilsModel" 25 (nmC 11) (TC 11 9).2.1 (TC 11 9).2.2.1 ∈ lw_tbl := in_t5 (List.mem_of_getElem? (i := 214) rfl)
set_option maxRecDepth 100000 in
theorem l_X11_28 : Cond.fieldLink "TwoPencilsModel" 28 (nmC 11) (TC 11 10).2.1 (TC 11 10).2.2.1 ∈ lw_tbl := in_t5 (List.mem_of_getElem? (i := 215) rfl)
set_option maxRecDepth 100000 in
theorem l_X11_31 : Cond.fieldLink "TwoPencilsModel" 31 (nmC 11) (TC 11 11).2.1 (TC 11 11).2.2.1 ∈ lw_tbl := in_t5 (List.mem_of_getElem? (i := 216) rfl)
set_option maxRecDepth 100000 in
theorem l_X11_34 : Cond.fieldLink "TwoPencilsModel" 34 (nmC 11) (TC 11 13).2.1 (TC 11 13).2.2.1 ∈ lw_tbl := in_t5 (List.mem_of_getElem? (i := 218) rfl)
set_option maxRecDepth 100000 in
theorem l_X11_37 : Cond.fieldLink "TwoPencilsModel" 37 (nmC 11) (TC 11 14).2.1 (TC 11 14).2.2.1 ∈ lw_tbl := in_t5 (List.mem_of_getElem? (i := 219) rfl)
set_option maxRecDepth 100000 in
theorem l_X11_40 : Cond.fieldLink "TwoPencilsModel" 40 (nmC 11) (TC 11 15).2.1 (TC 11 15).2.2.1 ∈ lw_tbl := in_t5 (List.mem_of_getElem? (i := 220) rfl)
set_option maxRecDepth 100000 in
theorem l_X11_43 : Cond.fieldLink "TwoPencilsModel" 43 (nmC 11) (TC 11 17).2.1 (TC 11 17).2.2.1 ∈ lw_tbl := in_t5 (List.mem_of_getElem? (i := 222) rfl)
set_option maxRecDepth 100000 in
theorem l_X11_46 : Cond.fieldLink "TwoPencilsModel" 46 (nmC 11) (TC 11 18).2.1 (TC 11 18).2.2.1 ∈ lw_tbl := in_t5 (List.mem_of_getElem? (i := 223) rfl)
set_option maxRecDepth 100000 in
theorem l_X11_50 : Cond.fieldLink "TwoPencilsModel" 50 (nmC 11) (TC 11 20).2.1 (TC 11 20).2.2.1 ∈ lw_tbl := in_t5 (List.mem_of_getElem? (i := 225) rfl)
set_option maxRecDepth 100000 in
theorem l_X11_53 : Cond.fieldLink "TwoPencilsModel" 53 (nmC 11) (TC 11 21).2.1 (TC 11 21).2.2.1 ∈ lw_tbl := in_t5 (List.mem_of_getElem? (i := 226) rfl)
set_option maxRecDepth 100000 in
theorem l_X11_56 : Cond.fieldLink "TwoPencilsModel" 56 (nmC 11) (TC 11 23).2.1 (TC 11 23).2.2.1 ∈ lw_tbl := in_t5 (List.mem_of_getElem? (i := 228) rfl)
set_option maxRecDepth 100000 in
theorem l_X11_59 : Cond.fieldLink "TwoPencilsModel" 59 (nmC 11) (TC 11 33).2.1 (TC 11 33).2.2.1 ∈ lw_tbl := in_t5 (List.mem_of_getElem? (i := 238) rfl)
set_option maxRecDepth 100000 in
theorem l_X11_62 : Cond.fieldLink "TwoPencilsModel" 62 (nmC 11) (TC 11 34).2.1 (TC 11 34).2.2.1 ∈ lw_tbl := in_t5 (List.mem_of_getElem? (i := 239) rfl)
set_option maxRecDepth 100000 in
theorem l_X11_65 : Cond.fieldLink "TwoPencilsModel" 65 (nmC 11) (TC 11 43).2.1 (TC 11 43).2.2.1 ∈ lw_tbl := in_t6 (List.mem_of_getElem? (i := 8) rfl)
set_option maxRecDepth 100000 in
theorem l_X11_68 : Cond.fieldLink "TwoPencilsModel" 68 (nmC 11) (TC 11 44).2.1 (TC 11 44).2.2.1 ∈ lw_tbl := in_t6 (List.mem_of_getElem? (i := 9) rfl)
set_option maxRecDepth 100000 in
theorem l_X11_72 : Cond.fieldLink "TwoPencilsModel" 72 (nmC 11) (TC 11 45).2.1 (TC 11 45).2.2.1 ∈ lw_tbl := in_t6 (List.mem_of_getElem? (i := 10) rfl)
set_option maxRecDepth 100000 in
theorem l_X11_75 : Cond.fieldLink "TwoPencilsModel" 75 (nmC 11) (TC 11 46).2.1 (TC 11 46).2.2.1 ∈ lw_tbl := in_t6 (List.mem_of_getElem? (i := 11) rfl)
set_option maxRecDepth 100000 in
theorem l_X11_78 : Cond.fieldLink "TwoPencilsModel" 78 (nmC 11) (TC 11 47).2.1 (TC 11 47).2.2.1 ∈ lw_tbl := in_t6 (List.mem_of_getElem? (i := 12) rfl)
set_option maxRecDepth 100000 in
theorem l_X11_81 : Cond.fieldLink "TwoPencilsModel" 81 (nmC 11) (TC 11 48).2.1 (TC 11 48).2.2.1 ∈ lw_tbl := in_t6 (List.mem_of_getElem? (i := 13) rfl)
set_option maxRecDepth 100000 in
theorem l_X11_84 : Cond.fieldLink "TwoPencilsModel" 84 (nmC 11) (TC 11 49).2.1 (TC 11 49).2.2.1 ∈ lw_tbl := in_t6 (List.mem_of_getElem? (i := 14) rfl)
set_option maxRecDepth 100000 in
theorem l_X11_87 : Cond.fieldLink "TwoPencilsModel" 87 (nmC 11) (TC 11 50).2.1 (TC 11 50).2.2.1 ∈ lw_tbl := in_t6 (List.mem_of_getElem? (i := 15) rfl)
set_option maxRecDepth 100000 in
theorem l_X11_90 : Cond.fieldLink "TwoPencilsModel" 90 (nmC 11) (TC 11 52).2.1 (TC 11 52).2.2.1 ∈ lw_tbl := in_t6 (List.mem_of_getElem? (i := 17) rfl)
set_option maxRecDepth 100000 in
theorem l_X11_93 : Cond.fieldLink "TwoPencilsModel" 93 (nmC 11) (TC 11 53).2.1 (TC 11 53).2.2.1 ∈ lw_tbl := in_t6 (List.mem_of_getElem? (i := 18) rfl)
set_option maxRecDepth 100000 in
theorem cl_X3_48 : Cond.classLink "TwoPencils$Land" 48 "[I" ∈ lw_tbl := in_t1 (List.mem_of_getElem? (i := 125) rfl)
set_option maxRecDepth 100000 in
theorem cl_X3_74 : Cond.classLink "TwoPencils$Land" 74 (nmC 8) ∈ lw_tbl := in_t1 (List.mem_of_getElem? (i := 126) rfl)
set_option maxRecDepth 100000 in
theorem cl_X5_9 : Cond.classLink "TwoPencils$Mind" 9 (nmC 0) ∈ lw_tbl := in_t2 (List.mem_of_getElem? (i := 86) rfl)
set_option maxRecDepth 100000 in
theorem cl_X10_16 : Cond.classLink "TwoPencils" 16 (nmC 4) ∈ lw_tbl := in_t1 (List.mem_of_getElem? (i := 53) rfl)
set_option maxRecDepth 100000 in
theorem cl_X10_23 : Cond.classLink "TwoPencils" 23 (nmC 7) ∈ lw_tbl := in_t1 (List.mem_of_getElem? (i := 89) rfl)
set_option maxRecDepth 100000 in
theorem cl_X10_30 : Cond.classLink "TwoPencils" 30 (nmC 3) ∈ lw_tbl := in_t1 (List.mem_of_getElem? (i := 108) rfl)
set_option maxRecDepth 100000 in
theorem cl_X10_36 : Cond.classLink "TwoPencils" 36 (nmC 6) ∈ lw_tbl := in_t1 (List.mem_of_getElem? (i := 110) rfl)
set_option maxRecDepth 100000 in
theorem cl_X10_42 : Cond.classLink "TwoPencils" 42 (nmC 1) ∈ lw_tbl := in_t1 (List.mem_of_getElem? (i := 112) rfl)
set_option maxRecDepth 100000 in
theorem cl_X10_7 : Cond.classLink "TwoPencils" 7 (nmC 9) ∈ lw_tbl := in_t1 (List.mem_of_getElem? (i := 28) rfl)
set_option maxRecDepth 100000 in
theorem cl_X10_72 : Cond.classLink "TwoPencils" 72 (nmC 0) ∈ lw_tbl := in_t2 (List.mem_of_getElem? (i := 10) rfl)
set_option maxRecDepth 100000 in
theorem cl_X10_79 : Cond.classLink "TwoPencils" 79 (nmC 2) ∈ lw_tbl := in_t2 (List.mem_of_getElem? (i := 47) rfl)
set_option maxRecDepth 100000 in
theorem cl_X10_88 : Cond.classLink "TwoPencils" 88 (nmC 5) ∈ lw_tbl := in_t2 (List.mem_of_getElem? (i := 80) rfl)
set_option maxRecDepth 100000 in
theorem ck_X3_47 : Cond.methodLink "TwoPencils$Land" 47 ⟨"[I", "clone", "()Ljava/lang/Object;"⟩ ∈ lw_tbl := in_t1 (List.mem_of_getElem? (i := 119) rfl)
set_option maxRecDepth 100000 in
theorem mk_X0_46 : mlk "TwoPencils$Cutter" 46 ⟨"java/util/Arrays", "fill", "([II)V"⟩ := Or.inl (in_t3 (List.mem_of_getElem? (i := 214) rfl))
set_option maxRecDepth 100000 in
theorem mk_X0_53 : mlk "TwoPencils$Cutter" 53 ⟨"TwoPencils$Cutter", "shift", "()Z"⟩ := Or.inl (in_t3 (List.mem_of_getElem? (i := 221) rfl))
set_option maxRecDepth 100000 in
theorem mk_X0_57 : mlk "TwoPencils$Cutter" 57 ⟨"TwoPencils$Cutter", "isHopeful", "()Z"⟩ := Or.inl (in_t3 (List.mem_of_getElem? (i := 225) rfl))
set_option maxRecDepth 100000 in
theorem mk_X1_101 : mlk "TwoPencils$Game" 101 ⟨"TwoPencils$Cutter", "begin", "([IIII)V"⟩ := Or.inl (in_t4 (List.mem_of_getElem? (i := 141) rfl))
set_option maxRecDepth 100000 in
theorem mk_X1_107 : mlk "TwoPencils$Game" 107 ⟨"TwoPencils$Cutter", "next", "()Z"⟩ := Or.inl (in_t4 (List.mem_of_getElem? (i := 143) rfl))
set_option maxRecDepth 100000 in
theorem mk_X1_117 : mlk "TwoPencils$Game" 117 ⟨"TwoPencils$Joiner", "join", "(LTwoPencils$Land;[IIII)Z"⟩ := Or.inl (in_t4 (List.mem_of_getElem? (i := 144) rfl))
set_option maxRecDepth 100000 in
theorem mk_X1_123 : mlk "TwoPencils$Game" 123 ⟨"TwoPencils$Land", "isLawfulCut", "(III[I)Z"⟩ := Or.inl (in_t4 (List.mem_of_getElem? (i := 191) rfl))
set_option maxRecDepth 100000 in
theorem mk_X1_127 : mlk "TwoPencils$Game" 127 ⟨"TwoPencils$Game", "permitsHalves", "(I)Z"⟩ := Or.inl (in_t4 (List.mem_of_getElem? (i := 195) rfl))
set_option maxRecDepth 100000 in
theorem mk_X1_131 : mlk "TwoPencils$Game" 131 ⟨"TwoPencils$Game", "permitsJoining", "(I)Z"⟩ := Or.inl (in_t4 (List.mem_of_getElem? (i := 201) rfl))
set_option maxRecDepth 100000 in
theorem mk_X1_134 : mlk "TwoPencils$Game" 134 ⟨"TwoPencils$Game", "permitsFirst", "(I)Z"⟩ := Or.inl (in_t4 (List.mem_of_getElem? (i := 205) rfl))
set_option maxRecDepth 100000 in
theorem mk_X1_137 : mlk "TwoPencils$Game" 137 ⟨"TwoPencils$Land", "split", "(IIII[I)Z"⟩ := Or.inl (in_t4 (List.mem_of_getElem? (i := 199) rfl))
set_option maxRecDepth 100000 in
theorem mk_X1_141 : mlk "TwoPencils$Game" 141 ⟨"TwoPencils$Land", "isHanging", "(I)Z"⟩ := Or.inl (in_t4 (List.mem_of_getElem? (i := 200) rfl))
set_option maxRecDepth 100000 in
theorem mk_X1_144 : mlk "TwoPencils$Game" 144 ⟨"TwoPencils$Cutter", "number", "(I)I"⟩ := Or.inl (in_t4 (List.mem_of_getElem? (i := 209) rfl))
set_option maxRecDepth 100000 in
theorem mk_X1_148 : mlk "TwoPencils$Game" 148 ⟨"TwoPencils$Game", "start", "(LTwoPencils$Land;LTwoPencils$Protocol;)V"⟩ := Or.inl (in_t4 (List.mem_of_getElem? (i := 230) rfl))
set_option maxRecDepth 100000 in
theorem mk_X1_152 : mlk "TwoPencils$Game" 152 ⟨"TwoPencils$Game", "play", "(I)V"⟩ := Or.inl (in_t4 (List.mem_of_getElem? (i := 231) rfl))
set_option maxRecDepth 100000 in
theorem mk_X1_156 : mlk "TwoPencils$Game" 156 ⟨"TwoPencils$Game", "keepSeat", "(I)V"⟩ := Or.inl (in_t4 (List.mem_of_getElem? (i := 214) rfl))
set_option maxRecDepth 100000 in
theorem mk_X1_159 : mlk "TwoPencils$Game" 159 ⟨"TwoPencils$Game", "keepCut", "(I)V"⟩ := Or.inl (in_t4 (List.mem_of_getElem? (i := 218) rfl))
set_option maxRecDepth 100000 in
theorem mk_X1_74 : mlk "TwoPencils$Game" 74 ⟨"TwoPencils$Game", "enterRound", "()V"⟩ := Or.inl (in_t4 (List.mem_of_getElem? (i := 133) rfl))
set_option maxRecDepth 100000 in
theorem mk_X1_77 : mlk "TwoPencils$Game" 77 ⟨"TwoPencils$Game", "isOver", "()Z"⟩ := Or.inl (in_t4 (List.mem_of_getElem? (i := 179) rfl))
set_option maxRecDepth 100000 in
theorem mk_X1_89 : mlk "TwoPencils$Game" 89 ⟨"TwoPencils$Game", "canHalve", "()Z"⟩ := Or.inl (in_t4 (List.mem_of_getElem? (i := 137) rfl))
set_option maxRecDepth 100000 in
theorem mk_X1_92 : mlk "TwoPencils$Game" 92 ⟨"TwoPencils$Game", "canCut", "()Z"⟩ := Or.inl (in_t4 (List.mem_of_getElem? (i := 159) rfl))
set_option maxRecDepth 100000 in
theorem mk_X2_44 : mlk "TwoPencils$Joiner" 44 ⟨"TwoPencils$Joiner", "joinFrom", "(III)V"⟩ := Or.inl (in_t4 (List.mem_of_getElem? (i := 149) rfl))
set_option maxRecDepth 100000 in
theorem mk_X2_48 : mlk "TwoPencils$Joiner" 48 ⟨"TwoPencils$Land", "numberOf", "([II)I"⟩ := Or.inl (in_t4 (List.mem_of_getElem? (i := 153) rfl))
set_option maxRecDepth 100000 in
theorem mk_X2_54 : mlk "TwoPencils$Joiner" 54 ⟨"TwoPencils$Mind", "prefers", "(III)Z"⟩ := Or.inl (in_t4 (List.mem_of_getElem? (i := 154) rfl))
set_option maxRecDepth 100000 in
theorem mk_X2_60 : mlk "TwoPencils$Joiner" 60 ⟨"TwoPencils$Land", "isLawful", "(I)Z"⟩ := Or.inl (in_t4 (List.mem_of_getElem? (i := 157) rfl))
set_option maxRecDepth 100000 in
theorem mk_X2_64 : mlk "TwoPencils$Joiner" 64 ⟨"TwoPencils$Land", "worth", "(II)I"⟩ := Or.inl (in_t4 (List.mem_of_getElem? (i := 158) rfl))
set_option maxRecDepth 100000 in
theorem mk_X3_105 : mlk "TwoPencils$Land" 105 ⟨"TwoPencils$Land", "votesIn", "(II)I"⟩ := Or.inl (in_t3 (List.mem_of_getElem? (i := 152) rfl))
set_option maxRecDepth 100000 in
theorem mk_X3_109 : mlk "TwoPencils$Land" 109 ⟨"TwoPencils$Land", "headsIn", "(I)I"⟩ := Or.inl (in_t3 (List.mem_of_getElem? (i := 160) rfl))
set_option maxRecDepth 100000 in
theorem mk_X3_112 : mlk "TwoPencils$Land" 112 ⟨"TwoPencils$Land", "split", "(IIII[I)Z"⟩ := Or.inl (in_t3 (List.mem_of_getElem? (i := 172) rfl))
set_option maxRecDepth 100000 in
theorem mk_X3_116 : mlk "TwoPencils$Land" 116 ⟨"TwoPencils$Land", "isLawful", "(I)Z"⟩ := Or.inl (in_t4 (List.mem_of_getElem? (i := 83) rfl))
set_option maxRecDepth 100000 in
theorem mk_X3_119 : mlk "TwoPencils$Land" 119 ⟨"TwoPencils$Land", "isNumbered", "(I[I)Z"⟩ := Or.inl (in_t3 (List.mem_of_getElem? (i := 168) rfl))
set_option maxRecDepth 100000 in
theorem mk_X3_123 : mlk "TwoPencils$Land" 123 ⟨"TwoPencils$Land", "lowest", "(I)I"⟩ := Or.inl (in_t4 (List.mem_of_getElem? (i := 114) rfl))
set_option maxRecDepth 100000 in
theorem mk_X3_126 : mlk "TwoPencils$Land" 126 ⟨"TwoPencils$Land", "winnerIn", "(I)I"⟩ := Or.inl (in_t3 (List.mem_of_getElem? (i := 196) rfl))
set_option maxRecDepth 100000 in
theorem mk_X3_132 : mlk "TwoPencils$Land" 132 ⟨"TwoPencils$Land", "worth", "(II)I"⟩ := Or.inl (in_t4 (List.mem_of_getElem? (i := 77) rfl))
set_option maxRecDepth 100000 in
theorem mk_X3_143 : mlk "TwoPencils$Land" 143 ⟨"java/lang/Integer", "bitCount", "(I)I"⟩ := Or.inl (in_t4 (List.mem_of_getElem? (i := 59) rfl))
set_option maxRecDepth 100000 in
theorem mk_X3_148 : mlk "TwoPencils$Land" 148 ⟨"TwoPencils$Land", "changesBalance", "(II)Z"⟩ := Or.inl (in_t4 (List.mem_of_getElem? (i := 73) rfl))
set_option maxRecDepth 100000 in
theorem mk_X3_158 : mlk "TwoPencils$Land" 158 ⟨"TwoPencils$Land", "distance", "([I[I)I"⟩ := Or.inl (in_t4 (List.mem_of_getElem? (i := 95) rfl))
set_option maxRecDepth 100000 in
theorem mk_X3_162 : mlk "TwoPencils$Land" 162 ⟨"TwoPencils$Land", "isSettled", "([I)Z"⟩ := Or.inl (in_t4 (List.mem_of_getElem? (i := 96) rfl))
set_option maxRecDepth 100000 in
theorem mk_X3_170 : mlk "TwoPencils$Land" 170 ⟨"TwoPencils$Land", "transfer", "([III)V"⟩ := Or.inl (in_t4 (List.mem_of_getElem? (i := 107) rfl))
set_option maxRecDepth 100000 in
theorem mk_X3_174 : mlk "TwoPencils$Land" 174 ⟨"TwoPencils$Land", "order", "([II)V"⟩ := Or.inl (in_t4 (List.mem_of_getElem? (i := 111) rfl))
set_option maxRecDepth 100000 in
theorem mk_X3_178 : mlk "TwoPencils$Land" 178 ⟨"TwoPencils$Roll", "makeRoom", "(II)V"⟩ := Or.inl (in_t3 (List.mem_of_getElem? (i := 205) rfl))
set_option maxRecDepth 100000 in
theorem mk_X3_182 : mlk "TwoPencils$Land" 182 ⟨"TwoPencils$Cutter", "begin", "([IIII)V"⟩ := Or.inl (in_t3 (List.mem_of_getElem? (i := 209) rfl))
set_option maxRecDepth 100000 in
theorem mk_X3_189 : mlk "TwoPencils$Land" 189 ⟨"TwoPencils$Cutter", "next", "()Z"⟩ := Or.inl (in_t3 (List.mem_of_getElem? (i := 216) rfl))
set_option maxRecDepth 100000 in
theorem mk_X3_196 : mlk "TwoPencils$Land" 196 ⟨"TwoPencils$Cutter", "number", "(I)I"⟩ := Or.inl (in_t3 (List.mem_of_getElem? (i := 229) rfl))
set_option maxRecDepth 100000 in
theorem mk_X3_199 : mlk "TwoPencils$Land" 199 ⟨"TwoPencils$Land", "wins", "([II)I"⟩ := Or.inl (in_t3 (List.mem_of_getElem? (i := 233) rfl))
set_option maxRecDepth 100000 in
theorem mk_X3_203 : mlk "TwoPencils$Land" 203 ⟨"TwoPencils$Roll", "enter", "(IIII)V"⟩ := Or.inl (in_t3 (List.mem_of_getElem? (i := 234) rfl))
set_option maxRecDepth 100000 in
theorem mk_X3_76 : mlk "TwoPencils$Land" 76 ⟨"TwoPencils$Roll", "<init>", "()V"⟩ := Or.inr ⟨"TwoPencils", in_t1 (List.mem_of_getElem? (i := 128) rfl)⟩
set_option maxRecDepth 100000 in
theorem mk_X3_81 : mlk "TwoPencils$Land" 81 ⟨"TwoPencils$Land", "gatherTogether", "()V"⟩ := Or.inl (in_t1 (List.mem_of_getElem? (i := 151) rfl))
set_option maxRecDepth 100000 in
theorem mk_X3_84 : mlk "TwoPencils$Land" 84 ⟨"TwoPencils$Land", "findHanging", "()V"⟩ := Or.inl (in_t1 (List.mem_of_getElem? (i := 155) rfl))
set_option maxRecDepth 100000 in
theorem mk_X3_87 : mlk "TwoPencils$Land" 87 ⟨"TwoPencils$Land", "isHanging", "(I)Z"⟩ := Or.inl (in_t1 (List.mem_of_getElem? (i := 159) rfl))
set_option maxRecDepth 100000 in
theorem mk_X3_91 : mlk "TwoPencils$Land" 91 ⟨"TwoPencils$Land", "lookAhead", "([I)V"⟩ := Or.inl (in_t1 (List.mem_of_getElem? (i := 163) rfl))
set_option maxRecDepth 100000 in
theorem mk_X3_95 : mlk "TwoPencils$Land" 95 ⟨"TwoPencils$Land", "winnerOf", "(I)I"⟩ := Or.inl (in_t3 (List.mem_of_getElem? (i := 148) rfl))
set_option maxRecDepth 100000 in
theorem mk_X3_99 : mlk "TwoPencils$Land" 99 ⟨"TwoPencils$Land", "flawOf", "(I)I"⟩ := Or.inl (in_t3 (List.mem_of_getElem? (i := 156) rfl))
set_option maxRecDepth 100000 in
theorem mk_X4_21 : mlk "TwoPencils$LandText" 21 ⟨"TwoPencils$LandText", "clear", "()V"⟩ := Or.inl (in_t3 (List.mem_of_getElem? (i := 30) rfl))
set_option maxRecDepth 100000 in
theorem mk_X4_24 : mlk "TwoPencils$LandText" 24 ⟨"TwoPencils$Tape", "rewind", "()V"⟩ := Or.inl (in_t3 (List.mem_of_getElem? (i := 35) rfl))
set_option maxRecDepth 100000 in
theorem mk_X4_29 : mlk "TwoPencils$LandText" 29 ⟨"TwoPencils$LandText", "readSize", "(LTwoPencils$Tape;)Z"⟩ := Or.inl (in_t3 (List.mem_of_getElem? (i := 39) rfl))
set_option maxRecDepth 100000 in
theorem mk_X4_33 : mlk "TwoPencils$LandText" 33 ⟨"TwoPencils$Tape", "peek", "()C"⟩ := Or.inl (in_t3 (List.mem_of_getElem? (i := 62) rfl))
set_option maxRecDepth 100000 in
theorem mk_X4_37 : mlk "TwoPencils$LandText" 37 ⟨"TwoPencils$Tape", "take", "(C)Z"⟩ := Or.inl (in_t3 (List.mem_of_getElem? (i := 55) rfl))
set_option maxRecDepth 100000 in
theorem mk_X4_41 : mlk "TwoPencils$LandText" 41 ⟨"TwoPencils$LandText", "readSentence", "(LTwoPencils$Tape;)Z"⟩ := Or.inl (in_t3 (List.mem_of_getElem? (i := 63) rfl))
set_option maxRecDepth 100000 in
theorem mk_X4_54 : mlk "TwoPencils$LandText" 54 ⟨"java/util/Arrays", "fill", "([II)V"⟩ := Or.inl (in_t3 (List.mem_of_getElem? (i := 34) rfl))
set_option maxRecDepth 100000 in
theorem mk_X4_60 : mlk "TwoPencils$LandText" 60 ⟨"TwoPencils$Tape", "number", "(III)I"⟩ := Or.inl (in_t3 (List.mem_of_getElem? (i := 43) rfl))
set_option maxRecDepth 100000 in
theorem mk_X4_76 : mlk "TwoPencils$LandText" 76 ⟨"TwoPencils$Tape", "pass", "()V"⟩ := Or.inl (in_t3 (List.mem_of_getElem? (i := 67) rfl))
set_option maxRecDepth 100000 in
theorem mk_X4_79 : mlk "TwoPencils$LandText" 79 ⟨"TwoPencils$LandText", "readVotes", "(LTwoPencils$Tape;I)Z"⟩ := Or.inl (in_t3 (List.mem_of_getElem? (i := 71) rfl))
set_option maxRecDepth 100000 in
theorem mk_X4_83 : mlk "TwoPencils$LandText" 83 ⟨"TwoPencils$LandText", "readPair", "(LTwoPencils$Tape;I[I)Z"⟩ := Or.inl (in_t3 (List.mem_of_getElem? (i := 75) rfl))
set_option maxRecDepth 100000 in
theorem mk_X4_90 : mlk "TwoPencils$LandText" 90 ⟨"TwoPencils$Tape", "refuse", "(I)Z"⟩ := Or.inl (in_t3 (List.mem_of_getElem? (i := 79) rfl))
set_option maxRecDepth 100000 in
theorem mk_X5_101 : mlk "TwoPencils$Mind" 101 ⟨"TwoPencils$Mind", "keepOne", "([IIII)I"⟩ := Or.inl (in_t5 (List.mem_of_getElem? (i := 21) rfl))
set_option maxRecDepth 100000 in
theorem mk_X5_105 : mlk "TwoPencils$Mind" 105 ⟨"TwoPencils$Mind", "joinHalves", "([II)I"⟩ := Or.inl (in_t5 (List.mem_of_getElem? (i := 60) rfl))
set_option maxRecDepth 100000 in
theorem mk_X5_109 : mlk "TwoPencils$Mind" 109 ⟨"TwoPencils$Mind", "drawSecond", "(LTwoPencils$Game;)I"⟩ := Or.inl (in_t5 (List.mem_of_getElem? (i := 64) rfl))
set_option maxRecDepth 100000 in
theorem mk_X5_113 : mlk "TwoPencils$Mind" 113 ⟨"TwoPencils$Mind", "takeOne", "(LTwoPencils$Game;)I"⟩ := Or.inl (in_t5 (List.mem_of_getElem? (i := 73) rfl))
set_option maxRecDepth 100000 in
theorem mk_X5_116 : mlk "TwoPencils$Mind" 116 ⟨"TwoPencils$Mind", "ahead", "(II)I"⟩ := Or.inl (in_t5 (List.mem_of_getElem? (i := 27) rfl))
set_option maxRecDepth 100000 in
theorem mk_X5_123 : mlk "TwoPencils$Mind" 123 ⟨"TwoPencils$Mind", "drawForKeeping", "(II)I"⟩ := Or.inl (in_t5 (List.mem_of_getElem? (i := 31) rfl))
set_option maxRecDepth 100000 in
theorem mk_X5_126 : mlk "TwoPencils$Mind" 126 ⟨"TwoPencils$Mind", "drawHalves", "(II)I"⟩ := Or.inl (in_t5 (List.mem_of_getElem? (i := 43) rfl))
set_option maxRecDepth 100000 in
theorem mk_X5_129 : mlk "TwoPencils$Mind" 129 ⟨"TwoPencils$Mind", "drawFirst", "(II)I"⟩ := Or.inl (in_t5 (List.mem_of_getElem? (i := 48) rfl))
set_option maxRecDepth 100000 in
theorem mk_X5_132 : mlk "TwoPencils$Mind" 132 ⟨"TwoPencils$Mind", "drawAll", "(II)I"⟩ := Or.inl (in_t5 (List.mem_of_getElem? (i := 56) rfl))
set_option maxRecDepth 100000 in
theorem mk_X5_141 : mlk "TwoPencils$Mind" 141 ⟨"TwoPencils$Cutter", "begin", "([IIII)V"⟩ := Or.inl (in_t5 (List.mem_of_getElem? (i := 39) rfl))
set_option maxRecDepth 100000 in
theorem mk_X5_145 : mlk "TwoPencils$Mind" 145 ⟨"TwoPencils$Mind", "cutsOf", "(II)LTwoPencils$Cutter;"⟩ := Or.inl (in_t5 (List.mem_of_getElem? (i := 35) rfl))
set_option maxRecDepth 100000 in
theorem mk_X5_150 : mlk "TwoPencils$Mind" 150 ⟨"TwoPencils$Cutter", "next", "()Z"⟩ := Or.inl (in_t5 (List.mem_of_getElem? (i := 41) rfl))
set_option maxRecDepth 100000 in
theorem mk_X5_156 : mlk "TwoPencils$Mind" 156 ⟨"TwoPencils$Mind", "prefers", "(III)Z"⟩ := Or.inl (in_t5 (List.mem_of_getElem? (i := 25) rfl))
set_option maxRecDepth 100000 in
theorem mk_X5_160 : mlk "TwoPencils$Mind" 160 ⟨"TwoPencils$Cutter", "number", "(I)I"⟩ := Or.inl (in_t5 (List.mem_of_getElem? (i := 42) rfl))
set_option maxRecDepth 100000 in
theorem mk_X5_163 : mlk "TwoPencils$Mind" 163 ⟨"TwoPencils$Land", "worth", "(II)I"⟩ := Or.inl (in_t5 (List.mem_of_getElem? (i := 26) rfl))
set_option maxRecDepth 100000 in
theorem mk_X5_169 : mlk "TwoPencils$Mind" 169 ⟨"TwoPencils$Joiner", "join", "(LTwoPencils$Land;[IIII)Z"⟩ := Or.inl (in_t5 (List.mem_of_getElem? (i := 47) rfl))
set_option maxRecDepth 100000 in
theorem mk_X5_179 : mlk "TwoPencils$Mind" 179 ⟨"TwoPencils$Mind", "lowestWorth", "(III)I"⟩ := Or.inl (in_t5 (List.mem_of_getElem? (i := 52) rfl))
set_option maxRecDepth 100000 in
theorem mk_X5_183 : mlk "TwoPencils$Mind" 183 ⟨"TwoPencils$Land", "split", "(IIII[I)Z"⟩ := Or.inl (in_t5 (List.mem_of_getElem? (i := 72) rfl))
set_option maxRecDepth 100000 in
theorem mk_X5_190 : mlk "TwoPencils$Mind" 190 ⟨"TwoPencils$Mind", "worthOfCut", "(ILTwoPencils$Game;)I"⟩ := Or.inl (in_t5 (List.mem_of_getElem? (i := 68) rfl))
set_option maxRecDepth 100000 in
theorem mk_X5_49 : mlk "TwoPencils$Mind" 49 ⟨"TwoPencils$Cutter", "<init>", "()V"⟩ := Or.inr ⟨"TwoPencils", in_t2 (List.mem_of_getElem? (i := 88) rfl)⟩
set_option maxRecDepth 100000 in
theorem mk_X5_50 : mlk "TwoPencils$Mind" 50 ⟨"java/util/Arrays", "fill", "([II)V"⟩ := Or.inl (in_t5 (List.mem_of_getElem? (i := 4) rfl))
set_option maxRecDepth 100000 in
theorem mk_X5_74 : mlk "TwoPencils$Mind" 74 ⟨"TwoPencils$Land", "worthOfAll", "([III)I"⟩ := Or.inl (in_t5 (List.mem_of_getElem? (i := 9) rfl))
set_option maxRecDepth 100000 in
theorem mk_X5_81 : mlk "TwoPencils$Mind" 81 ⟨"TwoPencils$Game", "isOver", "()Z"⟩ := Or.inl (in_t5 (List.mem_of_getElem? (i := 13) rfl))
set_option maxRecDepth 100000 in
theorem mk_X5_94 : mlk "TwoPencils$Mind" 94 ⟨"TwoPencils$Mind", "drawer", "(I)I"⟩ := Or.inl (in_t5 (List.mem_of_getElem? (i := 14) rfl))
set_option maxRecDepth 100000 in
theorem mk_X5_98 : mlk "TwoPencils$Mind" 98 ⟨"TwoPencils$Mind", "worstFor", "(I)I"⟩ := Or.inl (in_t5 (List.mem_of_getElem? (i := 18) rfl))
set_option maxRecDepth 100000 in
theorem mk_X7_22 : mlk "TwoPencils$ProtocolText" 22 ⟨"TwoPencils$Tape", "rewind", "()V"⟩ := Or.inl (in_t3 (List.mem_of_getElem? (i := 84) rfl))
set_option maxRecDepth 100000 in
theorem mk_X7_27 : mlk "TwoPencils$ProtocolText" 27 ⟨"TwoPencils$ProtocolText", "readRound", "(LTwoPencils$Tape;)Z"⟩ := Or.inl (in_t3 (List.mem_of_getElem? (i := 85) rfl))
set_option maxRecDepth 100000 in
theorem mk_X7_31 : mlk "TwoPencils$ProtocolText" 31 ⟨"TwoPencils$Tape", "peek", "()C"⟩ := Or.inl (in_t3 (List.mem_of_getElem? (i := 89) rfl))
set_option maxRecDepth 100000 in
theorem mk_X7_35 : mlk "TwoPencils$ProtocolText" 35 ⟨"TwoPencils$Tape", "take", "(C)Z"⟩ := Or.inl (in_t3 (List.mem_of_getElem? (i := 98) rfl))
set_option maxRecDepth 100000 in
theorem mk_X7_42 : mlk "TwoPencils$ProtocolText" 42 ⟨"TwoPencils$ProtocolText", "playerOf", "(C)I"⟩ := Or.inl (in_t3 (List.mem_of_getElem? (i := 90) rfl))
set_option maxRecDepth 100000 in
theorem mk_X7_49 : mlk "TwoPencils$ProtocolText" 49 ⟨"TwoPencils$Tape", "refuse", "(I)Z"⟩ := Or.inl (in_t3 (List.mem_of_getElem? (i := 93) rfl))
set_option maxRecDepth 100000 in
theorem mk_X7_53 : mlk "TwoPencils$ProtocolText" 53 ⟨"TwoPencils$Tape", "pass", "()V"⟩ := Or.inl (in_t3 (List.mem_of_getElem? (i := 94) rfl))
set_option maxRecDepth 100000 in
theorem mk_X7_56 : mlk "TwoPencils$ProtocolText" 56 ⟨"TwoPencils$ProtocolText", "kindOf", "(C)I"⟩ := Or.inl (in_t3 (List.mem_of_getElem? (i := 95) rfl))
set_option maxRecDepth 100000 in
theorem mk_X8_26 : mlk "TwoPencils$Roll" 26 ⟨"TwoPencils$Roll", "winsOf", "(II)I"⟩ := Or.inl (in_t4 (List.mem_of_getElem? (i := 6) rfl))
set_option maxRecDepth 100000 in
theorem mk_X9_25 : mlk "TwoPencils$Tape" 25 ⟨"TwoPencils$Tape", "peek", "()C"⟩ := Or.inl (in_t3 (List.mem_of_getElem? (i := 47) rfl))
set_option maxRecDepth 100000 in
theorem mk_X9_29 : mlk "TwoPencils$Tape" 29 ⟨"TwoPencils$Tape", "refuse", "(I)Z"⟩ := Or.inl (in_t3 (List.mem_of_getElem? (i := 51) rfl))
set_option maxRecDepth 100000 in
theorem mk_X10_114 : mlk "TwoPencils" 114 ⟨"java/util/Arrays", "fill", "([II)V"⟩ := Or.inl (in_t2 (List.mem_of_getElem? (i := 189) rfl))
set_option maxRecDepth 100000 in
theorem mk_X10_120 : mlk "TwoPencils" 120 ⟨"TwoPencils$Tape", "signsIn", "(I)I"⟩ := Or.inl (in_t3 (List.mem_of_getElem? (i := 11) rfl))
set_option maxRecDepth 100000 in
theorem mk_X10_127 : mlk "TwoPencils" 127 ⟨"TwoPencils$Tape", "add", "(I)V"⟩ := Or.inl (in_t3 (List.mem_of_getElem? (i := 14) rfl))
set_option maxRecDepth 100000 in
theorem mk_X10_131 : mlk "TwoPencils" 131 ⟨"TwoPencils$LandText", "read", "(LTwoPencils$Tape;)I"⟩ := Or.inl (in_t3 (List.mem_of_getElem? (i := 26) rfl))
set_option maxRecDepth 100000 in
theorem mk_X10_135 : mlk "TwoPencils" 135 ⟨"TwoPencils$ProtocolText", "read", "(LTwoPencils$Tape;)I"⟩ := Or.inl (in_t3 (List.mem_of_getElem? (i := 80) rfl))
set_option maxRecDepth 100000 in
theorem mk_X10_136 : mlk "TwoPencils" 136 ⟨"TwoPencils", "landAt", "(I)LTwoPencils$Land;"⟩ := Or.inl (in_t3 (List.mem_of_getElem? (i := 111) rfl))
set_option maxRecDepth 100000 in
theorem mk_X10_152 : mlk "TwoPencils" 152 ⟨"TwoPencils$Land", "votesInAll", "(I)I"⟩ := Or.inl (in_t3 (List.mem_of_getElem? (i := 115) rfl))
set_option maxRecDepth 100000 in
theorem mk_X10_171 : mlk "TwoPencils" 171 ⟨"TwoPencils", "isParty", "(I)Z"⟩ := Or.inl (in_t3 (List.mem_of_getElem? (i := 123) rfl))
set_option maxRecDepth 100000 in
theorem mk_X10_178 : mlk "TwoPencils" 178 ⟨"TwoPencils$Mind", "forget", "()V"⟩ := Or.inl (in_t3 (List.mem_of_getElem? (i := 126) rfl))
set_option maxRecDepth 100000 in
theorem mk_X10_18 : mlk "TwoPencils" 18 ⟨"TwoPencils$LandText", "<init>", "()V"⟩ := Or.inr ⟨"TwoPencils", in_t1 (List.mem_of_getElem? (i := 55) rfl)⟩
set_option maxRecDepth 100000 in
theorem mk_X10_181 : mlk "TwoPencils" 181 ⟨"java/util/Arrays", "fill", "([IIII)V"⟩ := Or.inl (in_t3 (List.mem_of_getElem? (i := 130) rfl))
set_option maxRecDepth 100000 in
theorem mk_X10_184 : mlk "TwoPencils" 184 ⟨"TwoPencils", "readyLand", "(I)LTwoPencils$Land;"⟩ := Or.inl (in_t3 (List.mem_of_getElem? (i := 140) rfl))
set_option maxRecDepth 100000 in
theorem mk_X10_187 : mlk "TwoPencils" 187 ⟨"TwoPencils$Land", "judged", "(I[I)I"⟩ := Or.inl (in_t3 (List.mem_of_getElem? (i := 164) rfl))
set_option maxRecDepth 100000 in
theorem mk_X10_191 : mlk "TwoPencils" 191 ⟨"TwoPencils", "landWithLawful", "(II)LTwoPencils$Land;"⟩ := Or.inl (in_t3 (List.mem_of_getElem? (i := 180) rfl))
set_option maxRecDepth 100000 in
theorem mk_X10_195 : mlk "TwoPencils" 195 ⟨"TwoPencils$Land", "winnerIn", "(I)I"⟩ := Or.inl (in_t3 (List.mem_of_getElem? (i := 184) rfl))
set_option maxRecDepth 100000 in
theorem mk_X10_198 : mlk "TwoPencils" 198 ⟨"TwoPencils$Land", "wins", "([II)I"⟩ := Or.inl (in_t3 (List.mem_of_getElem? (i := 192) rfl))
set_option maxRecDepth 100000 in
theorem mk_X10_202 : mlk "TwoPencils" 202 ⟨"TwoPencils$Land", "rollOfCuts", "(LTwoPencils$Cutter;)LTwoPencils$Roll;"⟩ := Or.inl (in_t3 (List.mem_of_getElem? (i := 201) rfl))
set_option maxRecDepth 100000 in
theorem mk_X10_214 : mlk "TwoPencils" 214 ⟨"TwoPencils$Roll", "fewest", "(I)I"⟩ := Or.inl (in_t4 (List.mem_of_getElem? (i := 2) rfl))
set_option maxRecDepth 100000 in
theorem mk_X10_217 : mlk "TwoPencils" 217 ⟨"TwoPencils$Roll", "most", "(I)I"⟩ := Or.inl (in_t4 (List.mem_of_getElem? (i := 11) rfl))
set_option maxRecDepth 100000 in
theorem mk_X10_220 : mlk "TwoPencils" 220 ⟨"TwoPencils$Roll", "earliest", "(II)I"⟩ := Or.inl (in_t4 (List.mem_of_getElem? (i := 18) rfl))
set_option maxRecDepth 100000 in
theorem mk_X10_224 : mlk "TwoPencils" 224 ⟨"TwoPencils$Roll", "howMany", "(III)I"⟩ := Or.inl (in_t4 (List.mem_of_getElem? (i := 26) rfl))
set_option maxRecDepth 100000 in
theorem mk_X10_228 : mlk "TwoPencils" 228 ⟨"TwoPencils$Land", "farUpper", "(II)I"⟩ := Or.inl (in_t4 (List.mem_of_getElem? (i := 34) rfl))
set_option maxRecDepth 100000 in
theorem mk_X10_231 : mlk "TwoPencils" 231 ⟨"TwoPencils$Land", "farLower", "()I"⟩ := Or.inl (in_t4 (List.mem_of_getElem? (i := 41) rfl))
set_option maxRecDepth 100000 in
theorem mk_X10_235 : mlk "TwoPencils" 235 ⟨"TwoPencils", "commonPart", "(II)I"⟩ := Or.inl (in_t4 (List.mem_of_getElem? (i := 46) rfl))
set_option maxRecDepth 100000 in
theorem mk_X10_238 : mlk "TwoPencils" 238 ⟨"TwoPencils$Land", "isNumbered", "(I[I)Z"⟩ := Or.inl (in_t4 (List.mem_of_getElem? (i := 54) rfl))
set_option maxRecDepth 100000 in
theorem mk_X10_242 : mlk "TwoPencils" 242 ⟨"TwoPencils$Land", "distance", "([I[I)I"⟩ := Or.inl (in_t4 (List.mem_of_getElem? (i := 55) rfl))
set_option maxRecDepth 100000 in
theorem mk_X10_246 : mlk "TwoPencils" 246 ⟨"TwoPencils$Land", "isSettled", "([I)Z"⟩ := Or.inl (in_t4 (List.mem_of_getElem? (i := 69) rfl))
set_option maxRecDepth 100000 in
theorem mk_X10_25 : mlk "TwoPencils" 25 ⟨"TwoPencils$ProtocolText", "<init>", "()V"⟩ := Or.inr ⟨"TwoPencils", in_t1 (List.mem_of_getElem? (i := 91) rfl)⟩
set_option maxRecDepth 100000 in
theorem mk_X10_250 : mlk "TwoPencils" 250 ⟨"TwoPencils$Land", "nearestSettled", "(LTwoPencils$Roll;[I[I)I"⟩ := Or.inl (in_t4 (List.mem_of_getElem? (i := 91) rfl))
set_option maxRecDepth 100000 in
theorem mk_X10_254 : mlk "TwoPencils" 254 ⟨"TwoPencils$Land", "wander", "([IJI)V"⟩ := Or.inl (in_t4 (List.mem_of_getElem? (i := 101) rfl))
set_option maxRecDepth 100000 in
theorem mk_X10_258 : mlk "TwoPencils" 258 ⟨"TwoPencils$Land", "numberOf", "([II)I"⟩ := Or.inl (in_t4 (List.mem_of_getElem? (i := 117) rfl))
set_option maxRecDepth 100000 in
theorem mk_X10_261 : mlk "TwoPencils" 261 ⟨"TwoPencils", "protocolAt", "(I)LTwoPencils$Protocol;"⟩ := Or.inl (in_t4 (List.mem_of_getElem? (i := 125) rfl))
set_option maxRecDepth 100000 in
theorem mk_X10_265 : mlk "TwoPencils" 265 ⟨"TwoPencils$Game", "start", "(LTwoPencils$Land;LTwoPencils$Protocol;)V"⟩ := Or.inl (in_t4 (List.mem_of_getElem? (i := 129) rfl))
set_option maxRecDepth 100000 in
theorem mk_X10_269 : mlk "TwoPencils" 269 ⟨"TwoPencils", "gameAt", "(I)LTwoPencils$Game;"⟩ := Or.inl (in_t4 (List.mem_of_getElem? (i := 167) rfl))
set_option maxRecDepth 100000 in
theorem mk_X10_276 : mlk "TwoPencils" 276 ⟨"TwoPencils$Game", "mover", "()I"⟩ := Or.inl (in_t4 (List.mem_of_getElem? (i := 175) rfl))
set_option maxRecDepth 100000 in
theorem mk_X10_279 : mlk "TwoPencils" 279 ⟨"TwoPencils$Game", "permits", "(I)Z"⟩ := Or.inl (in_t4 (List.mem_of_getElem? (i := 187) rfl))
set_option maxRecDepth 100000 in
theorem mk_X10_282 : mlk "TwoPencils" 282 ⟨"TwoPencils$Game", "play", "(I)V"⟩ := Or.inl (in_t4 (List.mem_of_getElem? (i := 210) rfl))
set_option maxRecDepth 100000 in
theorem mk_X10_288 : mlk "TwoPencils" 288 ⟨"TwoPencils$Game", "takeBack", "()V"⟩ := Or.inl (in_t4 (List.mem_of_getElem? (i := 226) rfl))
set_option maxRecDepth 100000 in
theorem mk_X10_291 : mlk "TwoPencils" 291 ⟨"TwoPencils", "isGoal", "(I)Z"⟩ := Or.inl (in_t4 (List.mem_of_getElem? (i := 236) rfl))
set_option maxRecDepth 100000 in
theorem mk_X10_294 : mlk "TwoPencils" 294 ⟨"TwoPencils$Game", "isOver", "()Z"⟩ := Or.inl (in_t4 (List.mem_of_getElem? (i := 239) rfl))
set_option maxRecDepth 100000 in
theorem mk_X10_304 : mlk "TwoPencils" 304 ⟨"TwoPencils$Mind", "turnTo", "(LTwoPencils$Land;LTwoPencils$Protocol;II)V"⟩ := Or.inl (in_t5 (List.mem_of_getElem? (i := 0) rfl))
set_option maxRecDepth 100000 in
theorem mk_X10_308 : mlk "TwoPencils" 308 ⟨"TwoPencils$Mind", "weigh", "(LTwoPencils$Game;)I"⟩ := Or.inl (in_t5 (List.mem_of_getElem? (i := 5) rfl))
set_option maxRecDepth 100000 in
theorem mk_X10_315 : mlk "TwoPencils" 315 ⟨"TwoPencils", "asGoal", "(II)I"⟩ := Or.inl (in_t5 (List.mem_of_getElem? (i := 81) rfl))
set_option maxRecDepth 100000 in
theorem mk_X10_324 : mlk "TwoPencils" 324 ⟨"TwoPencils", "answer", "(III)I"⟩ := Or.inl (in_t5 (List.mem_of_getElem? (i := 92) rfl))
set_option maxRecDepth 100000 in
theorem mk_X10_327 : mlk "TwoPencils" 327 ⟨"TwoPencils", "endOf", "(II)I"⟩ := Or.inl (in_t5 (List.mem_of_getElem? (i := 100) rfl))
set_option maxRecDepth 100000 in
theorem mk_X10_330 : mlk "TwoPencils" 330 ⟨"TwoPencils", "farOfEnd", "(II)I"⟩ := Or.inl (in_t5 (List.mem_of_getElem? (i := 113) rfl))
set_option maxRecDepth 100000 in
theorem mk_X10_333 : mlk "TwoPencils" 333 ⟨"TwoPencils", "gamesOver", "()I"⟩ := Or.inl (in_t5 (List.mem_of_getElem? (i := 125) rfl))
set_option maxRecDepth 100000 in
theorem mk_X10_337 : mlk "TwoPencils" 337 ⟨"TwoPencils$Land", "refresh", "()V"⟩ := Or.inl (in_t3 (List.mem_of_getElem? (i := 144) rfl))
set_option maxRecDepth 100000 in
theorem mk_X10_340 : mlk "TwoPencils" 340 ⟨"TwoPencils$Land", "order", "([II)V"⟩ := Or.inl (in_t5 (List.mem_of_getElem? (i := 104) rfl))
set_option maxRecDepth 100000 in
theorem mk_X10_58 : mlk "TwoPencils" 58 ⟨"TwoPencils$Land", "<init>", "(LTwoPencils$LandText;)V"⟩ := Or.inl (in_t1 (List.mem_of_getElem? (i := 115) rfl))
set_option maxRecDepth 100000 in
theorem mk_X10_65 : mlk "TwoPencils" 65 ⟨"TwoPencils$Protocol", "<init>", "(LTwoPencils$ProtocolText;)V"⟩ := Or.inl (in_t1 (List.mem_of_getElem? (i := 235) rfl))
set_option maxRecDepth 100000 in
theorem mk_X10_74 : mlk "TwoPencils" 74 ⟨"TwoPencils$Cutter", "<init>", "()V"⟩ := Or.inr ⟨"TwoPencils", in_t2 (List.mem_of_getElem? (i := 12) rfl)⟩
set_option maxRecDepth 100000 in
theorem mk_X10_81 : mlk "TwoPencils" 81 ⟨"TwoPencils$Joiner", "<init>", "(LTwoPencils$Land;)V"⟩ := Or.inl (in_t2 (List.mem_of_getElem? (i := 49) rfl))
set_option maxRecDepth 100000 in
theorem mk_X10_9 : mlk "TwoPencils" 9 ⟨"TwoPencils$Tape", "<init>", "()V"⟩ := Or.inr ⟨"TwoPencils", in_t1 (List.mem_of_getElem? (i := 30) rfl)⟩
set_option maxRecDepth 100000 in
theorem mk_X10_90 : mlk "TwoPencils" 90 ⟨"TwoPencils$Mind", "<init>", "(LTwoPencils$Joiner;LTwoPencils$Land;LTwoPencils$Protocol;)V"⟩ := Or.inl (in_t2 (List.mem_of_getElem? (i := 82) rfl))
set_option maxRecDepth 100000 in
theorem mk_X10_97 : mlk "TwoPencils" 97 ⟨"TwoPencils$Game", "<init>", "(LTwoPencils$Cutter;LTwoPencils$Joiner;LTwoPencils$Land;LTwoPencils$Protocol;)V"⟩ := Or.inl (in_t2 (List.mem_of_getElem? (i := 122) rfl))
set_option maxRecDepth 100000 in
theorem mk_X11_100 : mlk "TwoPencilsModel" 100 ⟨"TwoPencilsModel", "byteOf", "(IIIIII)I"⟩ := Or.inl (in_t6 (List.mem_of_getElem? (i := 137) rfl))
set_option maxRecDepth 100000 in
theorem mk_X11_113 : mlk "TwoPencilsModel" 113 ⟨"TwoPencilsModel", "look", "()I"⟩ := Or.inl (in_t6 (List.mem_of_getElem? (i := 159) rfl))
set_option maxRecDepth 100000 in
theorem mk_X11_117 : mlk "TwoPencilsModel" 117 ⟨"TwoPencilsModel", "isDigit", "(I)Z"⟩ := Or.inl (in_t6 (List.mem_of_getElem? (i := 163) rfl))
set_option maxRecDepth 100000 in
theorem mk_X11_121 : mlk "TwoPencilsModel" 121 ⟨"TwoPencilsModel", "bad", "(I)V"⟩ := Or.inl (in_t6 (List.mem_of_getElem? (i := 166) rfl))
set_option maxRecDepth 100000 in
theorem mk_X11_125 : mlk "TwoPencilsModel" 125 ⟨"TwoPencilsModel", "in", "(III)Z"⟩ := Or.inl (in_t6 (List.mem_of_getElem? (i := 170) rfl))
set_option maxRecDepth 100000 in
theorem mk_X11_129 : mlk "TwoPencilsModel" 129 ⟨"TwoPencilsModel", "voteAt", "(III)I"⟩ := Or.inl (in_t6 (List.mem_of_getElem? (i := 152) rfl))
set_option maxRecDepth 100000 in
theorem mk_X11_133 : mlk "TwoPencilsModel" 133 ⟨"TwoPencilsModel", "number", "(III)I"⟩ := Or.inl (in_t6 (List.mem_of_getElem? (i := 155) rfl))
set_option maxRecDepth 100000 in
theorem mk_X11_136 : mlk "TwoPencilsModel" 136 ⟨"TwoPencilsModel", "sign", "(I)V"⟩ := Or.inl (in_t6 (List.mem_of_getElem? (i := 173) rfl))
set_option maxRecDepth 100000 in
theorem mk_X11_145 : mlk "TwoPencilsModel" 145 ⟨"TwoPencilsModel", "sentence", "(I)V"⟩ := Or.inl (in_t6 (List.mem_of_getElem? (i := 178) rfl))
set_option maxRecDepth 100000 in
theorem mk_X11_148 : mlk "TwoPencilsModel" 148 ⟨"TwoPencilsModel", "tellVotes", "(II)V"⟩ := Or.inl (in_t6 (List.mem_of_getElem? (i := 182) rfl))
set_option maxRecDepth 100000 in
theorem mk_X11_152 : mlk "TwoPencilsModel" 152 ⟨"TwoPencilsModel", "round", "(I)V"⟩ := Or.inl (in_t6 (List.mem_of_getElem? (i := 190) rfl))
set_option maxRecDepth 100000 in
theorem mk_X11_155 : mlk "TwoPencilsModel" 155 ⟨"TwoPencilsModel", "readLand", "(I)I"⟩ := Or.inl (in_t6 (List.mem_of_getElem? (i := 148) rfl))
set_option maxRecDepth 100000 in
theorem mk_X11_159 : mlk "TwoPencilsModel" 159 ⟨"TwoPencilsModel", "readProtocol", "(I)I"⟩ := Or.inl (in_t6 (List.mem_of_getElem? (i := 186) rfl))
set_option maxRecDepth 100000 in
theorem mk_X11_168 : mlk "TwoPencilsModel" 168 ⟨"TwoPencilsModel", "isLand", "(I)Z"⟩ := Or.inl (in_t6 (List.mem_of_getElem? (i := 206) rfl))
set_option maxRecDepth 100000 in
theorem mk_X11_171 : mlk "TwoPencilsModel" 171 ⟨"TwoPencilsModel", "allVotes", "(II)I"⟩ := Or.inl (in_t6 (List.mem_of_getElem? (i := 210) rfl))
set_option maxRecDepth 100000 in
theorem mk_X11_174 : mlk "TwoPencilsModel" 174 ⟨"TwoPencilsModel", "isParish", "(II)Z"⟩ := Or.inl (in_t6 (List.mem_of_getElem? (i := 218) rfl))
set_option maxRecDepth 100000 in
theorem mk_X11_178 : mlk "TwoPencilsModel" 178 ⟨"TwoPencilsModel", "staying", "(II)I"⟩ := Or.inl (in_t6 (List.mem_of_getElem? (i := 222) rfl))
set_option maxRecDepth 100000 in
theorem mk_X11_187 : mlk "TwoPencilsModel" 187 ⟨"TwoPencilsModel", "failing", "(II)I"⟩ := Or.inl (in_t6 (List.mem_of_getElem? (i := 238) rfl))
set_option maxRecDepth 100000 in
theorem mk_X11_190 : mlk "TwoPencilsModel" 190 ⟨"TwoPencilsModel", "winning", "(II)I"⟩ := Or.inl (in_t7 (List.mem_of_getElem? (i := 2) rfl))
set_option maxRecDepth 100000 in
theorem mk_X11_193 : mlk "TwoPencilsModel" 193 ⟨"TwoPencilsModel", "digit", "(II)I"⟩ := Or.inl (in_t7 (List.mem_of_getElem? (i := 19) rfl))
set_option maxRecDepth 100000 in
theorem mk_X11_196 : mlk "TwoPencilsModel" 196 ⟨"TwoPencilsModel", "isNumbered", "(III)Z"⟩ := Or.inl (in_t7 (List.mem_of_getElem? (i := 15) rfl))
set_option maxRecDepth 100000 in
theorem mk_X11_199 : mlk "TwoPencilsModel" 199 ⟨"TwoPencilsModel", "seatOf", "(III)I"⟩ := Or.inl (in_t7 (List.mem_of_getElem? (i := 23) rfl))
set_option maxRecDepth 100000 in
theorem mk_X11_205 : mlk "TwoPencilsModel" 205 ⟨"TwoPencilsModel", "listFrom", "(IIIIII)V"⟩ := Or.inl (in_t7 (List.mem_of_getElem? (i := 59) rfl))
set_option maxRecDepth 100000 in
theorem mk_X11_209 : mlk "TwoPencilsModel" 209 ⟨"TwoPencilsModel", "whole", "()I"⟩ := Or.inl (in_t7 (List.mem_of_getElem? (i := 11) rfl))
set_option maxRecDepth 100000 in
theorem mk_X11_212 : mlk "TwoPencilsModel" 212 ⟨"TwoPencilsModel", "isNumber", "(II)Z"⟩ := Or.inl (in_t6 (List.mem_of_getElem? (i := 230) rfl))
set_option maxRecDepth 100000 in
theorem mk_X11_215 : mlk "TwoPencilsModel" 215 ⟨"TwoPencilsModel", "prepare", "(I)V"⟩ := Or.inl (in_t6 (List.mem_of_getElem? (i := 234) rfl))
set_option maxRecDepth 100000 in
theorem mk_X11_218 : mlk "TwoPencilsModel" 218 ⟨"TwoPencilsModel", "judged", "(I)I"⟩ := Or.inl (in_t7 (List.mem_of_getElem? (i := 7) rfl))
set_option maxRecDepth 100000 in
theorem mk_X11_221 : mlk "TwoPencilsModel" 221 ⟨"TwoPencilsModel", "judge", "(II)I"⟩ := Or.inl (in_t7 (List.mem_of_getElem? (i := 35) rfl))
set_option maxRecDepth 100000 in
theorem mk_X11_224 : mlk "TwoPencilsModel" 224 ⟨"TwoPencilsModel", "isWell", "(II)Z"⟩ := Or.inl (in_t7 (List.mem_of_getElem? (i := 31) rfl))
set_option maxRecDepth 100000 in
theorem mk_X11_227 : mlk "TwoPencilsModel" 227 ⟨"TwoPencilsModel", "isParty", "(I)Z"⟩ := Or.inl (in_t7 (List.mem_of_getElem? (i := 40) rfl))
set_option maxRecDepth 100000 in
theorem mk_X11_230 : mlk "TwoPencilsModel" 230 ⟨"TwoPencilsModel", "wins", "(II)I"⟩ := Or.inl (in_t7 (List.mem_of_getElem? (i := 43) rfl))
set_option maxRecDepth 100000 in
theorem mk_X11_233 : mlk "TwoPencilsModel" 233 ⟨"TwoPencilsModel", "list", "(III)I"⟩ := Or.inl (in_t7 (List.mem_of_getElem? (i := 55) rfl))
set_option maxRecDepth 100000 in
theorem mk_X11_236 : mlk "TwoPencilsModel" 236 ⟨"TwoPencilsModel", "listAll", "(I)I"⟩ := Or.inl (in_t7 (List.mem_of_getElem? (i := 51) rfl))
set_option maxRecDepth 100000 in
theorem mk_X11_239 : mlk "TwoPencilsModel" 239 ⟨"TwoPencilsModel", "divisor", "(II)I"⟩ := Or.inl (in_t7 (List.mem_of_getElem? (i := 80) rfl))
set_option maxRecDepth 100000 in
theorem mk_X11_245 : mlk "TwoPencilsModel" 245 ⟨"TwoPencilsModel", "farOf", "(III)I"⟩ := Or.inl (in_t7 (List.mem_of_getElem? (i := 75) rfl))
set_option maxRecDepth 100000 in
theorem mk_X11_248 : mlk "TwoPencilsModel" 248 ⟨"java/lang/Integer", "bitCount", "(I)I"⟩ := Or.inl (in_t7 (List.mem_of_getElem? (i := 95) rfl))
set_option maxRecDepth 100000 in
theorem mk_X11_253 : mlk "TwoPencilsModel" 253 ⟨"TwoPencilsModel", "staysBy", "(IIII)I"⟩ := Or.inl (in_t7 (List.mem_of_getElem? (i := 91) rfl))
set_option maxRecDepth 100000 in
theorem mk_X11_257 : mlk "TwoPencilsModel" 257 ⟨"TwoPencilsModel", "apartOf", "(II)I"⟩ := Or.inl (in_t7 (List.mem_of_getElem? (i := 87) rfl))
set_option maxRecDepth 100000 in
theorem mk_X11_260 : mlk "TwoPencilsModel" 260 ⟨"TwoPencilsModel", "moved", "(III)I"⟩ := Or.inl (in_t7 (List.mem_of_getElem? (i := 104) rfl))
set_option maxRecDepth 100000 in
theorem mk_X11_263 : mlk "TwoPencilsModel" 263 ⟨"TwoPencilsModel", "balance", "(I)I"⟩ := Or.inl (in_t7 (List.mem_of_getElem? (i := 108) rfl))
set_option maxRecDepth 100000 in
theorem mk_X11_266 : mlk "TwoPencilsModel" 266 ⟨"TwoPencilsModel", "isSettled", "(I)Z"⟩ := Or.inl (in_t7 (List.mem_of_getElem? (i := 100) rfl))
set_option maxRecDepth 100000 in
theorem mk_X11_291 : mlk "TwoPencilsModel" 291 ⟨"TwoPencilsModel", "startRound", "()V"⟩ := Or.inl (in_t7 (List.mem_of_getElem? (i := 134) rfl))
set_option maxRecDepth 100000 in
theorem mk_X11_294 : mlk "TwoPencilsModel" 294 ⟨"TwoPencilsModel", "doingNow", "()I"⟩ := Or.inl (in_t7 (List.mem_of_getElem? (i := 138) rfl))
set_option maxRecDepth 100000 in
theorem mk_X11_297 : mlk "TwoPencilsModel" 297 ⟨"TwoPencilsModel", "hasHalves", "(II)Z"⟩ := Or.inl (in_t7 (List.mem_of_getElem? (i := 142) rfl))
set_option maxRecDepth 100000 in
theorem mk_X11_303 : mlk "TwoPencilsModel" 303 ⟨"TwoPencilsModel", "keep", "(I)V"⟩ := Or.inl (in_t7 (List.mem_of_getElem? (i := 192) rfl))
set_option maxRecDepth 100000 in
theorem mk_X11_306 : mlk "TwoPencilsModel" 306 ⟨"TwoPencilsModel", "isCut", "(III)Z"⟩ := Or.inl (in_t7 (List.mem_of_getElem? (i := 224) rfl))
set_option maxRecDepth 100000 in
theorem mk_X11_309 : mlk "TwoPencilsModel" 309 ⟨"TwoPencilsModel", "isHalves", "(III)Z"⟩ := Or.inl (in_t7 (List.mem_of_getElem? (i := 228) rfl))
set_option maxRecDepth 100000 in
theorem mk_X11_312 : mlk "TwoPencilsModel" 312 ⟨"TwoPencilsModel", "joins", "(I)Z"⟩ := Or.inl (in_t8 (List.mem_of_getElem? (i := 0) rfl))
set_option maxRecDepth 100000 in
theorem mk_X11_315 : mlk "TwoPencilsModel" 315 ⟨"TwoPencilsModel", "isLast", "(I)Z"⟩ := Or.inl (in_t8 (List.mem_of_getElem? (i := 4) rfl))
set_option maxRecDepth 100000 in
theorem mk_X11_321 : mlk "TwoPencilsModel" 321 ⟨"TwoPencilsModel", "isAlone", "()Z"⟩ := Or.inl (in_t7 (List.mem_of_getElem? (i := 196) rfl))
set_option maxRecDepth 100000 in
theorem mk_X11_325 : mlk "TwoPencilsModel" 325 ⟨"TwoPencilsModel", "keepAll", "(I)V"⟩ := Or.inl (in_t7 (List.mem_of_getElem? (i := 200) rfl))
set_option maxRecDepth 100000 in
theorem mk_X11_331 : mlk "TwoPencilsModel" 331 ⟨"TwoPencilsModel", "half", "(II)I"⟩ := Or.inl (in_t7 (List.mem_of_getElem? (i := 232) rfl))
set_option maxRecDepth 100000 in
theorem mk_X11_334 : mlk "TwoPencilsModel" 334 ⟨"TwoPencilsModel", "halfOf", "(III)I"⟩ := Or.inl (in_t7 (List.mem_of_getElem? (i := 236) rfl))
set_option maxRecDepth 100000 in
theorem mk_X11_337 : mlk "TwoPencilsModel" 337 ⟨"TwoPencilsModel", "hangs", "(I)Z"⟩ := Or.inl (in_t7 (List.mem_of_getElem? (i := 154) rfl))
set_option maxRecDepth 100000 in
theorem mk_X11_340 : mlk "TwoPencilsModel" 340 ⟨"TwoPencilsModel", "canPair", "(II)Z"⟩ := Or.inl (in_t7 (List.mem_of_getElem? (i := 157) rfl))
set_option maxRecDepth 100000 in
theorem mk_X11_343 : mlk "TwoPencilsModel" 343 ⟨"java/lang/Integer", "numberOfTrailingZeros", "(I)I"⟩ := Or.inl (in_t7 (List.mem_of_getElem? (i := 161) rfl))
set_option maxRecDepth 100000 in
theorem mk_X11_353 : mlk "TwoPencilsModel" 353 ⟨"TwoPencilsModel", "weighHalves", "(II)V"⟩ := Or.inl (in_t7 (List.mem_of_getElem? (i := 150) rfl))
set_option maxRecDepth 100000 in
theorem mk_X11_356 : mlk "TwoPencilsModel" 356 ⟨"TwoPencilsModel", "seekHalves", "(IIIII)V"⟩ := Or.inl (in_t7 (List.mem_of_getElem? (i := 146) rfl))
set_option maxRecDepth 100000 in
theorem mk_X11_363 : mlk "TwoPencilsModel" 363 ⟨"TwoPencilsModel", "pairValue", "(III)I"⟩ := Or.inl (in_t7 (List.mem_of_getElem? (i := 165) rfl))
set_option maxRecDepth 100000 in
theorem mk_X11_372 : mlk "TwoPencilsModel" 372 ⟨"TwoPencilsModel", "worth", "(I)I"⟩ := Or.inl (in_t7 (List.mem_of_getElem? (i := 169) rfl))
set_option maxRecDepth 100000 in
theorem mk_X11_375 : mlk "TwoPencilsModel" 375 ⟨"TwoPencilsModel", "better", "(III)I"⟩ := Or.inl (in_t7 (List.mem_of_getElem? (i := 173) rfl))
set_option maxRecDepth 100000 in
theorem mk_X11_381 : mlk "TwoPencilsModel" 381 ⟨"TwoPencilsModel", "comesOf", "(II)I"⟩ := Or.inl (in_t8 (List.mem_of_getElem? (i := 39) rfl))
set_option maxRecDepth 100000 in
theorem mk_X11_384 : mlk "TwoPencilsModel" 384 ⟨"TwoPencilsModel", "roundOf", "(I)I"⟩ := Or.inl (in_t8 (List.mem_of_getElem? (i := 43) rfl))
set_option maxRecDepth 100000 in
theorem mk_X11_387 : mlk "TwoPencilsModel" 387 ⟨"TwoPencilsModel", "great", "(I)I"⟩ := Or.inl (in_t8 (List.mem_of_getElem? (i := 27) rfl))
set_option maxRecDepth 100000 in
theorem mk_X11_390 : mlk "TwoPencilsModel" 390 ⟨"TwoPencilsModel", "halvesValue", "(III)I"⟩ := Or.inl (in_t8 (List.mem_of_getElem? (i := 47) rfl))
set_option maxRecDepth 100000 in
theorem mk_X11_393 : mlk "TwoPencilsModel" 393 ⟨"TwoPencilsModel", "keepValue", "(IIII)I"⟩ := Or.inl (in_t8 (List.mem_of_getElem? (i := 51) rfl))
set_option maxRecDepth 100000 in
theorem mk_X11_396 : mlk "TwoPencilsModel" 396 ⟨"TwoPencilsModel", "cutWorth", "(III)I"⟩ := Or.inl (in_t8 (List.mem_of_getElem? (i := 55) rfl))
set_option maxRecDepth 100000 in
theorem mk_X11_399 : mlk "TwoPencilsModel" 399 ⟨"TwoPencilsModel", "comes", "(II)I"⟩ := Or.inl (in_t8 (List.mem_of_getElem? (i := 35) rfl))
set_option maxRecDepth 100000 in
theorem mk_X11_402 : mlk "TwoPencilsModel" 402 ⟨"TwoPencilsModel", "keptValue", "(IIII)I"⟩ := Or.inl (in_t8 (List.mem_of_getElem? (i := 31) rfl))
set_option maxRecDepth 100000 in
theorem mk_X11_405 : mlk "TwoPencilsModel" 405 ⟨"TwoPencilsModel", "firstNow", "()I"⟩ := Or.inl (in_t7 (List.mem_of_getElem? (i := 212) rfl))
set_option maxRecDepth 100000 in
theorem mk_X11_408 : mlk "TwoPencilsModel" 408 ⟨"TwoPencilsModel", "mover", "()I"⟩ := Or.inl (in_t7 (List.mem_of_getElem? (i := 208) rfl))
set_option maxRecDepth 100000 in
theorem mk_X11_417 : mlk "TwoPencilsModel" 417 ⟨"TwoPencilsModel", "offer", "(III)V"⟩ := Or.inl (in_t8 (List.mem_of_getElem? (i := 59) rfl))
set_option maxRecDepth 100000 in
theorem mk_X11_421 : mlk "TwoPencilsModel" 421 ⟨"TwoPencilsModel", "seekPair", "(I)I"⟩ := Or.inl (in_t8 (List.mem_of_getElem? (i := 63) rfl))
set_option maxRecDepth 100000 in
theorem mk_X11_424 : mlk "TwoPencilsModel" 424 ⟨"TwoPencilsModel", "seekCut", "(I)V"⟩ := Or.inl (in_t8 (List.mem_of_getElem? (i := 70) rfl))
set_option maxRecDepth 100000 in
theorem mk_X11_427 : mlk "TwoPencilsModel" 427 ⟨"TwoPencilsModel", "opposite", "(III)I"⟩ := Or.inl (in_t8 (List.mem_of_getElem? (i := 67) rfl))
set_option maxRecDepth 100000 in
theorem mk_X11_430 : mlk "TwoPencilsModel" 430 ⟨"TwoPencilsModel", "keptWorth", "()I"⟩ := Or.inl (in_t8 (List.mem_of_getElem? (i := 82) rfl))
set_option maxRecDepth 100000 in
theorem mk_X11_433 : mlk "TwoPencilsModel" 433 ⟨"TwoPencilsModel", "seekBest", "()I"⟩ := Or.inl (in_t8 (List.mem_of_getElem? (i := 23) rfl))
set_option maxRecDepth 100000 in
theorem mk_X11_439 : mlk "TwoPencilsModel" 439 ⟨"TwoPencilsModel", "startGame", "(III)V"⟩ := Or.inl (in_t7 (List.mem_of_getElem? (i := 130) rfl))
set_option maxRecDepth 100000 in
theorem mk_X11_442 : mlk "TwoPencilsModel" 442 ⟨"TwoPencilsModel", "makeMove", "(II)V"⟩ := Or.inl (in_t7 (List.mem_of_getElem? (i := 188) rfl))
set_option maxRecDepth 100000 in
theorem mk_X11_445 : mlk "TwoPencilsModel" 445 ⟨"TwoPencilsModel", "isGame", "(I)Z"⟩ := Or.inl (in_t7 (List.mem_of_getElem? (i := 180) rfl))
set_option maxRecDepth 100000 in
theorem mk_X11_448 : mlk "TwoPencilsModel" 448 ⟨"TwoPencilsModel", "goThrough", "(I)V"⟩ := Or.inl (in_t7 (List.mem_of_getElem? (i := 184) rfl))
set_option maxRecDepth 100000 in
theorem mk_X11_451 : mlk "TwoPencilsModel" 451 ⟨"TwoPencilsModel", "mayMove", "(I)Z"⟩ := Or.inl (in_t7 (List.mem_of_getElem? (i := 220) rfl))
set_option maxRecDepth 100000 in
theorem mk_X11_454 : mlk "TwoPencilsModel" 454 ⟨"TwoPencilsModel", "isGoal", "(I)Z"⟩ := Or.inl (in_t8 (List.mem_of_getElem? (i := 16) rfl))
set_option maxRecDepth 100000 in
theorem mk_X11_457 : mlk "TwoPencilsModel" 457 ⟨"TwoPencilsModel", "begin", "(I)V"⟩ := Or.inl (in_t8 (List.mem_of_getElem? (i := 19) rfl))
set_option maxRecDepth 100000 in
theorem mk_X11_460 : mlk "TwoPencilsModel" 460 ⟨"TwoPencilsModel", "valueNow", "()I"⟩ := Or.inl (in_t8 (List.mem_of_getElem? (i := 78) rfl))
set_option maxRecDepth 100000 in
theorem mk_X11_463 : mlk "TwoPencilsModel" 463 ⟨"TwoPencilsModel", "isBoth", "(II)Z"⟩ := Or.inl (in_t8 (List.mem_of_getElem? (i := 94) rfl))
set_option maxRecDepth 100000 in
theorem mk_X11_466 : mlk "TwoPencilsModel" 466 ⟨"TwoPencilsModel", "sureOf", "(IIII)I"⟩ := Or.inl (in_t8 (List.mem_of_getElem? (i := 98) rfl))
set_option maxRecDepth 100000 in
theorem mk_X11_469 : mlk "TwoPencilsModel" 469 ⟨"TwoPencilsModel", "keptCut", "()I"⟩ := Or.inl (in_t8 (List.mem_of_getElem? (i := 110) rfl))
set_option maxRecDepth 100000 in
theorem mk_X11_472 : mlk "TwoPencilsModel" 472 ⟨"TwoPencilsModel", "endedOf", "(II)I"⟩ := Or.inl (in_t8 (List.mem_of_getElem? (i := 106) rfl))
set_option maxRecDepth 100000 in
theorem mk_X11_475 : mlk "TwoPencilsModel" 475 ⟨"TwoPencilsModel", "findFar", "(III)Z"⟩ := Or.inl (in_t8 (List.mem_of_getElem? (i := 122) rfl))
set_option maxRecDepth 100000 in
theorem mk_X11_478 : mlk "TwoPencilsModel" 478 ⟨"TwoPencilsModel", "isFarther", "(II)Z"⟩ := Or.inl (in_t8 (List.mem_of_getElem? (i := 126) rfl))
set_option maxRecDepth 100000 in
theorem mk_J7_13 : mlk "java/util/Arrays" 13 ⟨"java/util/Arrays", "rangeCheck", "(III)V"⟩ := Or.inl (in_t3 (List.mem_of_getElem? (i := 133) rfl))
set_option maxRecDepth 100000 in
theorem mx_X0_40 : Cond.methodLink "TwoPencils$Cutter" 40 Lib.Math.min.name ∈ lw_tbl := in_t3 (List.mem_of_getElem? (i := 213) rfl)
set_option maxRecDepth 100000 in
theorem mx_X2_38 : Cond.methodLink "TwoPencils$Joiner" 38 Lib.Math.min.name ∈ lw_tbl := in_t4 (List.mem_of_getElem? (i := 148) rfl)
set_option maxRecDepth 100000 in
theorem mx_X3_135 : Cond.methodLink "TwoPencils$Land" 135 Lib.Math.abs.name ∈ lw_tbl := in_t4 (List.mem_of_getElem? (i := 38) rfl)
set_option maxRecDepth 100000 in
theorem mx_X3_140 : Cond.methodLink "TwoPencils$Land" 140 Lib.Math.max.name ∈ lw_tbl := in_t4 (List.mem_of_getElem? (i := 45) rfl)
set_option maxRecDepth 100000 in
theorem mx_X4_67 : Cond.methodLink "TwoPencils$LandText" 67 Lib.Math.min.name ∈ lw_tbl := in_t3 (List.mem_of_getElem? (i := 59) rfl)
set_option maxRecDepth 100000 in
theorem mx_X8_30 : Cond.methodLink "TwoPencils$Roll" 30 Lib.Math.max.name ∈ lw_tbl := in_t4 (List.mem_of_getElem? (i := 15) rfl)
set_option maxRecDepth 100000 in
theorem mx_X8_35 : Cond.methodLink "TwoPencils$Roll" 35 Lib.Math.min.name ∈ lw_tbl := in_t4 (List.mem_of_getElem? (i := 10) rfl)
set_option maxRecDepth 100000 in
theorem mx_X11_139 : Cond.methodLink "TwoPencilsModel" 139 Lib.Math.min.name ∈ lw_tbl := in_t6 (List.mem_of_getElem? (i := 177) rfl)
set_option maxRecDepth 100000 in
theorem mx_X11_181 : Cond.methodLink "TwoPencilsModel" 181 Lib.Math.max.name ∈ lw_tbl := in_t7 (List.mem_of_getElem? (i := 6) rfl)
set_option maxRecDepth 100000 in
theorem mx_X11_242 : Cond.methodLink "TwoPencilsModel" 242 Lib.Math.abs.name ∈ lw_tbl := in_t7 (List.mem_of_getElem? (i := 79) rfl)
set_option maxRecDepth 100000 in
theorem oi_X0_3 : Cond.methodLink "TwoPencils$Cutter" 3 objectInit ∈ lw_tbl := in_t2 (List.mem_of_getElem? (i := 15) rfl)
set_option maxRecDepth 100000 in
theorem oi_X1_3 : Cond.methodLink "TwoPencils$Game" 3 objectInit ∈ lw_tbl := in_t2 (List.mem_of_getElem? (i := 125) rfl)
set_option maxRecDepth 100000 in
theorem oi_X2_3 : Cond.methodLink "TwoPencils$Joiner" 3 objectInit ∈ lw_tbl := in_t2 (List.mem_of_getElem? (i := 52) rfl)
set_option maxRecDepth 100000 in
theorem oi_X3_3 : Cond.methodLink "TwoPencils$Land" 3 objectInit ∈ lw_tbl := in_t1 (List.mem_of_getElem? (i := 118) rfl)
set_option maxRecDepth 100000 in
theorem oi_X4_3 : Cond.methodLink "TwoPencils$LandText" 3 objectInit ∈ lw_tbl := in_t1 (List.mem_of_getElem? (i := 58) rfl)
set_option maxRecDepth 100000 in
theorem oi_X5_3 : Cond.methodLink "TwoPencils$Mind" 3 objectInit ∈ lw_tbl := in_t2 (List.mem_of_getElem? (i := 85) rfl)
set_option maxRecDepth 100000 in
theorem oi_X6_3 : Cond.methodLink "TwoPencils$Protocol" 3 objectInit ∈ lw_tbl := in_t1 (List.mem_of_getElem? (i := 238) rfl)
set_option maxRecDepth 100000 in
theorem oi_X7_3 : Cond.methodLink "TwoPencils$ProtocolText" 3 objectInit ∈ lw_tbl := in_t1 (List.mem_of_getElem? (i := 94) rfl)
set_option maxRecDepth 100000 in
theorem oi_X8_3 : Cond.methodLink "TwoPencils$Roll" 3 objectInit ∈ lw_tbl := in_t1 (List.mem_of_getElem? (i := 131) rfl)
set_option maxRecDepth 100000 in
theorem oi_X9_3 : Cond.methodLink "TwoPencils$Tape" 3 objectInit ∈ lw_tbl := in_t1 (List.mem_of_getElem? (i := 33) rfl)
set_option maxRecDepth 100000 in
theorem oi_X10_1 : Cond.methodLink "TwoPencils" 1 objectInit ∈ lw_tbl := in_t1 (List.mem_of_getElem? (i := 25) rfl)
set_option maxRecDepth 100000 in
theorem oi_X11_1 : Cond.methodLink "TwoPencilsModel" 1 objectInit ∈ lw_tbl := in_t5 (List.mem_of_getElem? (i := 203) rfl)
set_option maxRecDepth 100000 in
theorem mx_max_st : Cond.static Lib.Math.max.name ∈ lw_tbl := in_t4 (List.mem_of_getElem? (i := 16) rfl)
set_option maxRecDepth 100000 in
theorem mx_max_co : Cond.code Lib.Math.max.name Lib.Math.max.code 2 (some .int) ∈ lw_tbl := in_t4 (List.mem_of_getElem? (i := 17) rfl)
set_option maxRecDepth 100000 in
theorem mx_min_st : Cond.static Lib.Math.min.name ∈ lw_tbl := in_t3 (List.mem_of_getElem? (i := 60) rfl)
set_option maxRecDepth 100000 in
theorem mx_min_co : Cond.code Lib.Math.min.name Lib.Math.min.code 2 (some .int) ∈ lw_tbl := in_t3 (List.mem_of_getElem? (i := 61) rfl)
set_option maxRecDepth 100000 in
theorem mx_abs_st : Cond.static Lib.Math.abs.name ∈ lw_tbl := in_t4 (List.mem_of_getElem? (i := 39) rfl)
set_option maxRecDepth 100000 in
theorem mx_abs_co : Cond.code Lib.Math.abs.name Lib.Math.abs.code 1 (some .int) ∈ lw_tbl := in_t4 (List.mem_of_getElem? (i := 40) rfl)
set_option maxRecDepth 100000 in
theorem mx_ini : Cond.initialized "java/lang/Math" ∈ lw_tbl := in_t1 (List.mem_of_getElem? (i := 14) rfl)
set_option maxRecDepth 100000 in
theorem oi_in : Cond.instanceMethod objectInit ∈ lw_tbl := in_t1 (List.mem_of_getElem? (i := 26) rfl)
set_option maxRecDepth 100000 in
theorem oi_code : Cond.code objectInit ⟨#[0xb1]⟩ 1 none ∈ lw_tbl := in_t1 (List.mem_of_getElem? (i := 27) rfl)
set_option maxRecDepth 100000 in
theorem in_0 : Cond.instantiable (nmC 0) 9 ∈ lw_tbl := in_t2 (List.mem_of_getElem? (i := 11) rfl)
set_option maxRecDepth 100000 in
theorem ii_0 : Cond.initialized (nmC 0) ∈ lw_tbl := in_t1 (List.mem_of_getElem? (i := 8) rfl)
set_option maxRecDepth 100000 in
theorem in_1 : Cond.instantiable (nmC 1) 16 ∈ lw_tbl := in_t2 (List.mem_of_getElem? (i := 121) rfl)
set_option maxRecDepth 100000 in
theorem ii_1 : Cond.initialized (nmC 1) ∈ lw_tbl := in_t1 (List.mem_of_getElem? (i := 11) rfl)
set_option maxRecDepth 100000 in
theorem in_2 : Cond.instantiable (nmC 2) 8 ∈ lw_tbl := in_t2 (List.mem_of_getElem? (i := 48) rfl)
set_option maxRecDepth 100000 in
theorem ii_2 : Cond.initialized (nmC 2) ∈ lw_tbl := in_t1 (List.mem_of_getElem? (i := 9) rfl)
set_option maxRecDepth 100000 in
theorem in_3 : Cond.instantiable (nmC 3) 16 ∈ lw_tbl := in_t1 (List.mem_of_getElem? (i := 114) rfl)
set_option maxRecDepth 100000 in
theorem ii_3 : Cond.initialized (nmC 3) ∈ lw_tbl := in_t1 (List.mem_of_getElem? (i := 5) rfl)
set_option maxRecDepth 100000 in
theorem in_4 : Cond.instantiable (nmC 4) 7 ∈ lw_tbl := in_t1 (List.mem_of_getElem? (i := 54) rfl)
set_option maxRecDepth 100000 in
theorem ii_4 : Cond.initialized (nmC 4) ∈ lw_tbl := in_t1 (List.mem_of_getElem? (i := 3) rfl)
set_option maxRecDepth 100000 in
theorem in_5 : Cond.instantiable (nmC 5) 10 ∈ lw_tbl := in_t2 (List.mem_of_getElem? (i := 81) rfl)
set_option maxRecDepth 100000 in
theorem ii_5 : Cond.initialized (nmC 5) ∈ lw_tbl := in_t1 (List.mem_of_getElem? (i := 10) rfl)
set_option maxRecDepth 100000 in
theorem in_6 : Cond.instantiable (nmC 6) 2 ∈ lw_tbl := in_t1 (List.mem_of_getElem? (i := 234) rfl)
set_option maxRecDepth 100000 in
theorem ii_6 : Cond.initialized (nmC 6) ∈ lw_tbl := in_t1 (List.mem_of_getElem? (i := 7) rfl)
set_option maxRecDepth 100000 in
theorem in_7 : Cond.instantiable (nmC 7) 3 ∈ lw_tbl := in_t1 (List.mem_of_getElem? (i := 90) rfl)
set_option maxRecDepth 100000 in
theorem ii_7 : Cond.initialized (nmC 7) ∈ lw_tbl := in_t1 (List.mem_of_getElem? (i := 4) rfl)
set_option maxRecDepth 100000 in
theorem in_8 : Cond.instantiable (nmC 8) 4 ∈ lw_tbl := in_t1 (List.mem_of_getElem? (i := 127) rfl)
set_option maxRecDepth 100000 in
theorem ii_8 : Cond.initialized (nmC 8) ∈ lw_tbl := in_t1 (List.mem_of_getElem? (i := 6) rfl)
set_option maxRecDepth 100000 in
theorem in_9 : Cond.instantiable (nmC 9) 4 ∈ lw_tbl := in_t1 (List.mem_of_getElem? (i := 29) rfl)
set_option maxRecDepth 100000 in
theorem ii_9 : Cond.initialized (nmC 9) ∈ lw_tbl := in_t1 (List.mem_of_getElem? (i := 2) rfl)
set_option maxRecDepth 100000 in
theorem in_10 : Cond.instantiable (nmC 10) 18 ∈ lw_tbl := in_t1 (List.mem_of_getElem? (i := 21) rfl)
set_option maxRecDepth 100000 in
theorem ii_10 : Cond.initialized (nmC 10) ∈ lw_tbl := in_t1 (List.mem_of_getElem? (i := 1) rfl)
set_option maxRecDepth 100000 in
theorem in_11 : Cond.instantiable (nmC 11) 54 ∈ lw_tbl := in_t5 (List.mem_of_getElem? (i := 199) rfl)
set_option maxRecDepth 100000 in
theorem ii_11 : Cond.initialized (nmC 11) ∈ lw_tbl := in_t1 (List.mem_of_getElem? (i := 13) rfl)
set_option maxRecDepth 100000 in
theorem ac_15 : Cond.arrayClass .boolean ∈ lw_tbl := in_t6 (List.mem_of_getElem? (i := 128) rfl)
set_option maxRecDepth 100000 in
theorem ac_12 : Cond.arrayClass .byte ∈ lw_tbl := in_t1 (List.mem_of_getElem? (i := 150) rfl)
set_option maxRecDepth 100000 in
theorem ac_13 : Cond.arrayClass .char ∈ lw_tbl := in_t1 (List.mem_of_getElem? (i := 52) rfl)
set_option maxRecDepth 100000 in
theorem ac_14 : Cond.arrayClass .int ∈ lw_tbl := in_t1 (List.mem_of_getElem? (i := 88) rfl)
set_option maxRecDepth 100000 in
theorem ac_20 : Cond.arrayClass .long ∈ lw_tbl := in_t8 (List.mem_of_getElem? (i := 139) rfl)
set_option maxRecDepth 100000 in
theorem ao_16 : Cond.arrayOver (.object (nmC 0)) ∈ lw_tbl := in_t2 (List.mem_of_getElem? (i := 87) rfl)
set_option maxRecDepth 100000 in
theorem ao_17 : Cond.arrayOver (.object (nmC 1)) ∈ lw_tbl := in_t1 (List.mem_of_getElem? (i := 113) rfl)
set_option maxRecDepth 100000 in
theorem ao_18 : Cond.arrayOver (.object (nmC 3)) ∈ lw_tbl := in_t1 (List.mem_of_getElem? (i := 109) rfl)
set_option maxRecDepth 100000 in
theorem ao_19 : Cond.arrayOver (.object (nmC 6)) ∈ lw_tbl := in_t1 (List.mem_of_getElem? (i := 111) rfl)
set_option maxRecDepth 100000 in
theorem clo_1 : Cond.sameMethod "[I" "java/lang/Object" "clone" "()Ljava/lang/Object;" ∈ lw_tbl := in_t1 (List.mem_of_getElem? (i := 120) rfl)
set_option maxRecDepth 100000 in
theorem clo_2 : Cond.native ⟨"java/lang/Object", "clone", "()Ljava/lang/Object;"⟩ ∈ lw_tbl := in_t1 (List.mem_of_getElem? (i := 121) rfl)
set_option maxRecDepth 100000 in
theorem clo_3 : Cond.instanceMethod ⟨"java/lang/Object", "clone", "()Ljava/lang/Object;"⟩ ∈ lw_tbl := in_t1 (List.mem_of_getElem? (i := 122) rfl)
set_option maxRecDepth 100000 in
theorem clo_4 : Cond.selects "[I" ⟨"[I", "clone", "()Ljava/lang/Object;"⟩ ⟨"java/lang/Object", "clone", "()Ljava/lang/Object;"⟩ ∈ lw_tbl := in_t1 (List.mem_of_getElem? (i := 123) rfl)
set_option maxRecDepth 100000 in
theorem clo_5 : Cond.castable "[I" "java/lang/Cloneable" ∈ lw_tbl := in_t1 (List.mem_of_getElem? (i := 124) rfl)
set_option maxRecDepth 100000 in
theorem mo_J6_numberOfTrailingZeros_0f7a4 : mOKS m_J6_numberOfTrailingZeros_0f7a4 1 := ⟨⟨in_t1 (List.mem_of_getElem? (i := 19) rfl), in_t7 (List.mem_of_getElem? (i := 163) rfl), by decide⟩, in_t7 (List.mem_of_getElem? (i := 162) rfl)⟩
set_option maxRecDepth 100000 in
theorem mo_J6_bitCount_0f7a4 : mOKS m_J6_bitCount_0f7a4 1 := ⟨⟨in_t1 (List.mem_of_getElem? (i := 19) rfl), in_t4 (List.mem_of_getElem? (i := 61) rfl), by decide⟩, in_t4 (List.mem_of_getElem? (i := 60) rfl)⟩
set_option maxRecDepth 100000 in
theorem mo_J7_rangeCheck_23922 : mOKS m_J7_rangeCheck_23922 3 := ⟨⟨in_t1 (List.mem_of_getElem? (i := 12) rfl), in_t3 (List.mem_of_getElem? (i := 135) rfl), by decide⟩, in_t3 (List.mem_of_getElem? (i := 134) rfl)⟩
set_option maxRecDepth 100000 in
theorem mo_J7_fill_53178 : mOKS m_J7_fill_53178 2 := ⟨⟨in_t1 (List.mem_of_getElem? (i := 12) rfl), in_t2 (List.mem_of_getElem? (i := 191) rfl), by decide⟩, in_t2 (List.mem_of_getElem? (i := 190) rfl)⟩
set_option maxRecDepth 100000 in
theorem mo_J7_fill_fda19 : mOKS m_J7_fill_fda19 4 := ⟨⟨in_t1 (List.mem_of_getElem? (i := 12) rfl), in_t3 (List.mem_of_getElem? (i := 132) rfl), by decide⟩, in_t3 (List.mem_of_getElem? (i := 131) rfl)⟩
set_option maxRecDepth 100000 in
theorem mo_X0_init : mOKI m_X0_init 0 0 := ⟨⟨in_t1 (List.mem_of_getElem? (i := 8) rfl), in_t2 (List.mem_of_getElem? (i := 14) rfl), by decide⟩, in_t2 (List.mem_of_getElem? (i := 13) rfl), rfl, rfl, by decide⟩
set_option maxRecDepth 100000 in
theorem mo_X0_begin : mOKV m_X0_begin 4 0 := ⟨⟨in_t1 (List.mem_of_getElem? (i := 8) rfl), in_t3 (List.mem_of_getElem? (i := 212) rfl), by decide⟩, in_t3 (List.mem_of_getElem? (i := 210) rfl), in_t3 (List.mem_of_getElem? (i := 211) rfl), rfl, by decide⟩
set_option maxRecDepth 100000 in
theorem mo_X0_next : mOKV m_X0_next 0 0 := ⟨⟨in_t1 (List.mem_of_getElem? (i := 8) rfl), in_t3 (List.mem_of_getElem? (i := 219) rfl), by decide⟩, in_t3 (List.mem_of_getElem? (i := 217) rfl), in_t3 (List.mem_of_getElem? (i := 218) rfl), rfl, by decide⟩
set_option maxRecDepth 100000 in
theorem mo_X0_shift : mOKV m_X0_shift 0 0 := ⟨⟨in_t1 (List.mem_of_getElem? (i := 8) rfl), in_t3 (List.mem_of_getElem? (i := 224) rfl), by decide⟩, in_t3 (List.mem_of_getElem? (i := 223) rfl), in_s (List.mem_of_getElem? (i := 16) rfl), rfl, by decide⟩
set_option maxRecDepth 100000 in
theorem mo_X0_isHopeful : mOKV m_X0_isHopeful 0 0 := ⟨⟨in_t1 (List.mem_of_getElem? (i := 8) rfl), in_t3 (List.mem_of_getElem? (i := 228) rfl), by decide⟩, in_t3 (List.mem_of_getElem? (i := 227) rfl), in_s (List.mem_of_getElem? (i := 17) rfl), rfl, by decide⟩
set_option maxRecDepth 100000 in
theorem mo_X0_number : mOKV m_X0_number 1 0 := ⟨⟨in_t1 (List.mem_of_getElem? (i := 8) rfl), in_t3 (List.mem_of_getElem? (i := 232) rfl), by decide⟩, in_t3 (List.mem_of_getElem? (i := 230) rfl), in_t3 (List.mem_of_getElem? (i := 231) rfl), rfl, by decide⟩
set_option maxRecDepth 100000 in
theorem mo_X4_init : mOKI m_X4_init 0 4 := ⟨⟨in_t1 (List.mem_of_getElem? (i := 3) rfl), in_t1 (List.mem_of_getElem? (i := 57) rfl), by decide⟩, in_t1 (List.mem_of_getElem? (i := 56) rfl), rfl, rfl, by decide⟩
set_option maxRecDepth 100000 in
theorem mo_X4_read : mOKV m_X4_read 1 4 := ⟨⟨in_t1 (List.mem_of_getElem? (i := 3) rfl), in_t3 (List.mem_of_getElem? (i := 29) rfl), by decide⟩, in_t3 (List.mem_of_getElem? (i := 27) rfl), in_t3 (List.mem_of_getElem? (i := 28) rfl), rfl, by decide⟩
set_option maxRecDepth 100000 in
theorem mo_X4_clear : mOKV m_X4_clear 0 4 := ⟨⟨in_t1 (List.mem_of_getElem? (i := 3) rfl), in_t3 (List.mem_of_getElem? (i := 33) rfl), by decide⟩, in_t3 (List.mem_of_getElem? (i := 32) rfl), in_s (List.mem_of_getElem? (i := 3) rfl), rfl, by decide⟩
set_option maxRecDepth 100000 in
theorem mo_X4_readSize : mOKV m_X4_readSize 1 4 := ⟨⟨in_t1 (List.mem_of_getElem? (i := 3) rfl), in_t3 (List.mem_of_getElem? (i := 42) rfl), by decide⟩, in_t3 (List.mem_of_getElem? (i := 41) rfl), in_s (List.mem_of_getElem? (i := 4) rfl), rfl, by decide⟩
set_option maxRecDepth 100000 in
theorem mo_X4_readSentence : mOKV m_X4_readSentence 1 4 := ⟨⟨in_t1 (List.mem_of_getElem? (i := 3) rfl), in_t3 (List.mem_of_getElem? (i := 66) rfl), by decide⟩, in_t3 (List.mem_of_getElem? (i := 65) rfl), in_s (List.mem_of_getElem? (i := 5) rfl), rfl, by decide⟩
set_option maxRecDepth 100000 in
theorem mo_X4_readVotes : mOKV m_X4_readVotes 2 4 := ⟨⟨in_t1 (List.mem_of_getElem? (i := 3) rfl), in_t3 (List.mem_of_getElem? (i := 74) rfl), by decide⟩, in_t3 (List.mem_of_getElem? (i := 73) rfl), in_s (List.mem_of_getElem? (i := 6) rfl), rfl, by decide⟩
set_option maxRecDepth 100000 in
theorem mo_X4_readPair : mOKV m_X4_readPair 3 4 := ⟨⟨in_t1 (List.mem_of_getElem? (i := 3) rfl), in_t3 (List.mem_of_getElem? (i := 78) rfl), by decide⟩, in_t3 (List.mem_of_getElem? (i := 77) rfl), in_s (List.mem_of_getElem? (i := 7) rfl), rfl, by decide⟩
set_option maxRecDepth 100000 in
theorem mo_X6_init : mOKI m_X6_init 1 6 := ⟨⟨in_t1 (List.mem_of_getElem? (i := 7) rfl), in_t1 (List.mem_of_getElem? (i := 237) rfl), by decide⟩, in_t1 (List.mem_of_getElem? (i := 236) rfl), rfl, rfl, by decide⟩
set_option maxRecDepth 100000 in
theorem mo_X7_init : mOKI m_X7_init 0 7 := ⟨⟨in_t1 (List.mem_of_getElem? (i := 4) rfl), in_t1 (List.mem_of_getElem? (i := 93) rfl), by decide⟩, in_t1 (List.mem_of_getElem? (i := 92) rfl), rfl, rfl, by decide⟩
set_option maxRecDepth 100000 in
theorem mo_X7_read : mOKV m_X7_read 1 7 := ⟨⟨in_t1 (List.mem_of_getElem? (i := 4) rfl), in_t3 (List.mem_of_getElem? (i := 83) rfl), by decide⟩, in_t3 (List.mem_of_getElem? (i := 81) rfl), in_t3 (List.mem_of_getElem? (i := 82) rfl), rfl, by decide⟩
set_option maxRecDepth 100000 in
theorem mo_X7_readRound : mOKV m_X7_readRound 1 7 := ⟨⟨in_t1 (List.mem_of_getElem? (i := 4) rfl), in_t3 (List.mem_of_getElem? (i := 88) rfl), by decide⟩, in_t3 (List.mem_of_getElem? (i := 87) rfl), in_s (List.mem_of_getElem? (i := 8) rfl), rfl, by decide⟩
set_option maxRecDepth 100000 in
theorem mo_X7_playerOf : mOKS m_X7_playerOf 1 := ⟨⟨in_t1 (List.mem_of_getElem? (i := 4) rfl), in_t3 (List.mem_of_getElem? (i := 92) rfl), by decide⟩, in_t3 (List.mem_of_getElem? (i := 91) rfl)⟩
set_option maxRecDepth 100000 in
theorem mo_X7_kindOf : mOKS m_X7_kindOf 1 := ⟨⟨in_t1 (List.mem_of_getElem? (i := 4) rfl), in_t3 (List.mem_of_getElem? (i := 97) rfl), by decide⟩, in_t3 (List.mem_of_getElem? (i := 96) rfl)⟩
set_option maxRecDepth 100000 in
theorem mo_X8_init : mOKI m_X8_init 0 8 := ⟨⟨in_t1 (List.mem_of_getElem? (i := 6) rfl), in_t1 (List.mem_of_getElem? (i := 130) rfl), by decide⟩, in_t1 (List.mem_of_getElem? (i := 129) rfl), rfl, rfl, by decide⟩
set_option maxRecDepth 100000 in
theorem mo_X8_makeRoom : mOKV m_X8_makeRoom 2 8 := ⟨⟨in_t1 (List.mem_of_getElem? (i := 6) rfl), in_t3 (List.mem_of_getElem? (i := 208) rfl), by decide⟩, in_t3 (List.mem_of_getElem? (i := 206) rfl), in_t3 (List.mem_of_getElem? (i := 207) rfl), rfl, by decide⟩
set_option maxRecDepth 100000 in
theorem mo_X8_enter : mOKV m_X8_enter 4 8 := ⟨⟨in_t1 (List.mem_of_getElem? (i := 6) rfl), in_t3 (List.mem_of_getElem? (i := 237) rfl), by decide⟩, in_t3 (List.mem_of_getElem? (i := 235) rfl), in_t3 (List.mem_of_getElem? (i := 236) rfl), rfl, by decide⟩
set_option maxRecDepth 100000 in
theorem mo_X8_winsOf : mOKV m_X8_winsOf 2 8 := ⟨⟨in_t1 (List.mem_of_getElem? (i := 6) rfl), in_t4 (List.mem_of_getElem? (i := 9) rfl), by decide⟩, in_t4 (List.mem_of_getElem? (i := 8) rfl), in_s (List.mem_of_getElem? (i := 18) rfl), rfl, by decide⟩
set_option maxRecDepth 100000 in
theorem mo_X8_most : mOKV m_X8_most 1 8 := ⟨⟨in_t1 (List.mem_of_getElem? (i := 6) rfl), in_t4 (List.mem_of_getElem? (i := 14) rfl), by decide⟩, in_t4 (List.mem_of_getElem? (i := 12) rfl), in_t4 (List.mem_of_getElem? (i := 13) rfl), rfl, by decide⟩
set_option maxRecDepth 100000 in
theorem mo_X8_fewest : mOKV m_X8_fewest 1 8 := ⟨⟨in_t1 (List.mem_of_getElem? (i := 6) rfl), in_t4 (List.mem_of_getElem? (i := 5) rfl), by decide⟩, in_t4 (List.mem_of_getElem? (i := 3) rfl), in_t4 (List.mem_of_getElem? (i := 4) rfl), rfl, by decide⟩
set_option maxRecDepth 100000 in
theorem mo_X8_earliest : mOKV m_X8_earliest 2 8 := ⟨⟨in_t1 (List.mem_of_getElem? (i := 6) rfl), in_t4 (List.mem_of_getElem? (i := 21) rfl), by decide⟩, in_t4 (List.mem_of_getElem? (i := 19) rfl), in_t4 (List.mem_of_getElem? (i := 20) rfl), rfl, by decide⟩
set_option maxRecDepth 100000 in
theorem mo_X8_howMany : mOKV m_X8_howMany 3 8 := ⟨⟨in_t1 (List.mem_of_getElem? (i := 6) rfl), in_t4 (List.mem_of_getElem? (i := 29) rfl), by decide⟩, in_t4 (List.mem_of_getElem? (i := 27) rfl), in_t4 (List.mem_of_getElem? (i := 28) rfl), rfl, by decide⟩
set_option maxRecDepth 100000 in
theorem mo_X9_init : mOKI m_X9_init 0 9 := ⟨⟨in_t1 (List.mem_of_getElem? (i := 2) rfl), in_t1 (List.mem_of_getElem? (i := 32) rfl), by decide⟩, in_t1 (List.mem_of_getElem? (i := 31) rfl), rfl, rfl, by decide⟩
set_option maxRecDepth 100000 in
theorem mo_X9_signsIn : mOKS m_X9_signsIn 1 := ⟨⟨in_t1 (List.mem_of_getElem? (i := 2) rfl), in_t3 (List.mem_of_getElem? (i := 13) rfl), by decide⟩, in_t3 (List.mem_of_getElem? (i := 12) rfl)⟩
set_option maxRecDepth 100000 in
theorem mo_X9_add : mOKV m_X9_add 1 9 := ⟨⟨in_t1 (List.mem_of_getElem? (i := 2) rfl), in_t3 (List.mem_of_getElem? (i := 17) rfl), by decide⟩, in_t3 (List.mem_of_getElem? (i := 15) rfl), in_t3 (List.mem_of_getElem? (i := 16) rfl), rfl, by decide⟩
set_option maxRecDepth 100000 in
theorem mo_X9_rewind : mOKV m_X9_rewind 0 9 := ⟨⟨in_t1 (List.mem_of_getElem? (i := 2) rfl), in_t3 (List.mem_of_getElem? (i := 38) rfl), by decide⟩, in_t3 (List.mem_of_getElem? (i := 36) rfl), in_t3 (List.mem_of_getElem? (i := 37) rfl), rfl, by decide⟩
set_option maxRecDepth 100000 in
theorem mo_X9_peek : mOKV m_X9_peek 0 9 := ⟨⟨in_t1 (List.mem_of_getElem? (i := 2) rfl), in_t3 (List.mem_of_getElem? (i := 50) rfl), by decide⟩, in_t3 (List.mem_of_getElem? (i := 48) rfl), in_t3 (List.mem_of_getElem? (i := 49) rfl), rfl, by decide⟩
set_option maxRecDepth 100000 in
theorem mo_X9_pass : mOKV m_X9_pass 0 9 := ⟨⟨in_t1 (List.mem_of_getElem? (i := 2) rfl), in_t3 (List.mem_of_getElem? (i := 70) rfl), by decide⟩, in_t3 (List.mem_of_getElem? (i := 68) rfl), in_t3 (List.mem_of_getElem? (i := 69) rfl), rfl, by decide⟩
set_option maxRecDepth 100000 in
theorem mo_X9_take : mOKV m_X9_take 1 9 := ⟨⟨in_t1 (List.mem_of_getElem? (i := 2) rfl), in_t3 (List.mem_of_getElem? (i := 58) rfl), by decide⟩, in_t3 (List.mem_of_getElem? (i := 56) rfl), in_t3 (List.mem_of_getElem? (i := 57) rfl), rfl, by decide⟩
set_option maxRecDepth 100000 in
theorem mo_X9_refuse : mOKV m_X9_refuse 1 9 := ⟨⟨in_t1 (List.mem_of_getElem? (i := 2) rfl), in_t3 (List.mem_of_getElem? (i := 54) rfl), by decide⟩, in_t3 (List.mem_of_getElem? (i := 52) rfl), in_t3 (List.mem_of_getElem? (i := 53) rfl), rfl, by decide⟩
set_option maxRecDepth 100000 in
theorem mo_X9_number : mOKV m_X9_number 3 9 := ⟨⟨in_t1 (List.mem_of_getElem? (i := 2) rfl), in_t3 (List.mem_of_getElem? (i := 46) rfl), by decide⟩, in_t3 (List.mem_of_getElem? (i := 44) rfl), in_t3 (List.mem_of_getElem? (i := 45) rfl), rfl, by decide⟩
set_option maxRecDepth 100000 in
theorem mo_X3_init : mOKI m_X3_init 1 3 := ⟨⟨in_t1 (List.mem_of_getElem? (i := 5) rfl), in_t1 (List.mem_of_getElem? (i := 117) rfl), by decide⟩, in_t1 (List.mem_of_getElem? (i := 116) rfl), rfl, rfl, by decide⟩
set_option maxRecDepth 100000 in
theorem mo_X3_gatherTogether : mOKV m_X3_gatherTogether 0 3 := ⟨⟨in_t1 (List.mem_of_getElem? (i := 5) rfl), in_t1 (List.mem_of_getElem? (i := 154) rfl), by decide⟩, in_t1 (List.mem_of_getElem? (i := 153) rfl), in_s (List.mem_of_getElem? (i := 0) rfl), rfl, by decide⟩
set_option maxRecDepth 100000 in
theorem mo_X3_findHanging : mOKV m_X3_findHanging 0 3 := ⟨⟨in_t1 (List.mem_of_getElem? (i := 5) rfl), in_t1 (List.mem_of_getElem? (i := 158) rfl), by decide⟩, in_t1 (List.mem_of_getElem? (i := 157) rfl), in_s (List.mem_of_getElem? (i := 1) rfl), rfl, by decide⟩
set_option maxRecDepth 100000 in
theorem mo_X3_lookAhead : mOKV m_X3_lookAhead 1 3 := ⟨⟨in_t1 (List.mem_of_getElem? (i := 5) rfl), in_t1 (List.mem_of_getElem? (i := 166) rfl), by decide⟩, in_t1 (List.mem_of_getElem? (i := 165) rfl), in_s (List.mem_of_getElem? (i := 2) rfl), rfl, by decide⟩
set_option maxRecDepth 100000 in
theorem mo_X3_refresh : mOKV m_X3_refresh 0 3 := ⟨⟨in_t1 (List.mem_of_getElem? (i := 5) rfl), in_t3 (List.mem_of_getElem? (i := 147) rfl), by decide⟩, in_t3 (List.mem_of_getElem? (i := 145) rfl), in_t3 (List.mem_of_getElem? (i := 146) rfl), rfl, by decide⟩
set_option maxRecDepth 100000 in
theorem mo_X3_votesIn : mOKV m_X3_votesIn 2 3 := ⟨⟨in_t1 (List.mem_of_getElem? (i := 5) rfl), in_t3 (List.mem_of_getElem? (i := 155) rfl), by decide⟩, in_t3 (List.mem_of_getElem? (i := 154) rfl), in_s (List.mem_of_getElem? (i := 12) rfl), rfl, by decide⟩
set_option maxRecDepth 100000 in
theorem mo_X3_headsIn : mOKV m_X3_headsIn 1 3 := ⟨⟨in_t1 (List.mem_of_getElem? (i := 5) rfl), in_t3 (List.mem_of_getElem? (i := 163) rfl), by decide⟩, in_t3 (List.mem_of_getElem? (i := 162) rfl), in_s (List.mem_of_getElem? (i := 14) rfl), rfl, by decide⟩
set_option maxRecDepth 100000 in
theorem mo_X3_winnerOf : mOKV m_X3_winnerOf 1 3 := ⟨⟨in_t1 (List.mem_of_getElem? (i := 5) rfl), in_t3 (List.mem_of_getElem? (i := 151) rfl), by decide⟩, in_t3 (List.mem_of_getElem? (i := 150) rfl), in_s (List.mem_of_getElem? (i := 11) rfl), rfl, by decide⟩
set_option maxRecDepth 100000 in
theorem mo_X3_flawOf : mOKV m_X3_flawOf 1 3 := ⟨⟨in_t1 (List.mem_of_getElem? (i := 5) rfl), in_t3 (List.mem_of_getElem? (i := 159) rfl), by decide⟩, in_t3 (List.mem_of_getElem? (i := 158) rfl), in_s (List.mem_of_getElem? (i := 13) rfl), rfl, by decide⟩
set_option maxRecDepth 100000 in
theorem mo_X3_isHanging : mOKV m_X3_isHanging 1 3 := ⟨⟨in_t1 (List.mem_of_getElem? (i := 5) rfl), in_t1 (List.mem_of_getElem? (i := 162) rfl), by decide⟩, in_t1 (List.mem_of_getElem? (i := 160) rfl), in_t1 (List.mem_of_getElem? (i := 161) rfl), rfl, by decide⟩
set_option maxRecDepth 100000 in
theorem mo_X3_isLawful : mOKV m_X3_isLawful 1 3 := ⟨⟨in_t1 (List.mem_of_getElem? (i := 5) rfl), in_t4 (List.mem_of_getElem? (i := 86) rfl), by decide⟩, in_t4 (List.mem_of_getElem? (i := 84) rfl), in_t4 (List.mem_of_getElem? (i := 85) rfl), rfl, by decide⟩
set_option maxRecDepth 100000 in
theorem mo_X3_winnerIn : mOKV m_X3_winnerIn 1 3 := ⟨⟨in_t1 (List.mem_of_getElem? (i := 5) rfl), in_t3 (List.mem_of_getElem? (i := 187) rfl), by decide⟩, in_t3 (List.mem_of_getElem? (i := 185) rfl), in_t3 (List.mem_of_getElem? (i := 186) rfl), rfl, by decide⟩
set_option maxRecDepth 100000 in
theorem mo_X3_votesInAll : mOKV m_X3_votesInAll 1 3 := ⟨⟨in_t1 (List.mem_of_getElem? (i := 5) rfl), in_t3 (List.mem_of_getElem? (i := 118) rfl), by decide⟩, in_t3 (List.mem_of_getElem? (i := 116) rfl), in_t3 (List.mem_of_getElem? (i := 117) rfl), rfl, by decide⟩
set_option maxRecDepth 100000 in
theorem mo_X3_split : mOKV m_X3_split 5 3 := ⟨⟨in_t1 (List.mem_of_getElem? (i := 5) rfl), in_t3 (List.mem_of_getElem? (i := 175) rfl), by decide⟩, in_t3 (List.mem_of_getElem? (i := 173) rfl), in_t3 (List.mem_of_getElem? (i := 174) rfl), rfl, by decide⟩
set_option maxRecDepth 100000 in
theorem mo_X3_isNumbered : mOKV m_X3_isNumbered 2 3 := ⟨⟨in_t1 (List.mem_of_getElem? (i := 5) rfl), in_t3 (List.mem_of_getElem? (i := 171) rfl), by decide⟩, in_t3 (List.mem_of_getElem? (i := 169) rfl), in_t3 (List.mem_of_getElem? (i := 170) rfl), rfl, by decide⟩
set_option maxRecDepth 100000 in
theorem mo_X3_isLawfulCut : mOKV m_X3_isLawfulCut 4 3 := ⟨⟨in_t1 (List.mem_of_getElem? (i := 5) rfl), in_t4 (List.mem_of_getElem? (i := 194) rfl), by decide⟩, in_t4 (List.mem_of_getElem? (i := 192) rfl), in_t4 (List.mem_of_getElem? (i := 193) rfl), rfl, by decide⟩
set_option maxRecDepth 100000 in
theorem mo_X3_judged : mOKV m_X3_judged 2 3 := ⟨⟨in_t1 (List.mem_of_getElem? (i := 5) rfl), in_t3 (List.mem_of_getElem? (i := 167) rfl), by decide⟩, in_t3 (List.mem_of_getElem? (i := 165) rfl), in_t3 (List.mem_of_getElem? (i := 166) rfl), rfl, by decide⟩
set_option maxRecDepth 100000 in
theorem mo_X3_numberOf : mOKV m_X3_numberOf 2 3 := ⟨⟨in_t1 (List.mem_of_getElem? (i := 5) rfl), in_t4 (List.mem_of_getElem? (i := 120) rfl), by decide⟩, in_t4 (List.mem_of_getElem? (i := 118) rfl), in_t4 (List.mem_of_getElem? (i := 119) rfl), rfl, by decide⟩
set_option maxRecDepth 100000 in
theorem mo_X3_lowest : mOKS m_X3_lowest 1 := ⟨⟨in_t1 (List.mem_of_getElem? (i := 5) rfl), in_t4 (List.mem_of_getElem? (i := 116) rfl), by decide⟩, in_t4 (List.mem_of_getElem? (i := 115) rfl)⟩
set_option maxRecDepth 100000 in
theorem mo_X3_order : mOKS m_X3_order 2 := ⟨⟨in_t1 (List.mem_of_getElem? (i := 5) rfl), in_t4 (List.mem_of_getElem? (i := 113) rfl), by decide⟩, in_t4 (List.mem_of_getElem? (i := 112) rfl)⟩
set_option maxRecDepth 100000 in
theorem mo_X3_wins : mOKV m_X3_wins 2 3 := ⟨⟨in_t1 (List.mem_of_getElem? (i := 5) rfl), in_t3 (List.mem_of_getElem? (i := 195) rfl), by decide⟩, in_t3 (List.mem_of_getElem? (i := 193) rfl), in_t3 (List.mem_of_getElem? (i := 194) rfl), rfl, by decide⟩
set_option maxRecDepth 100000 in
theorem mo_X3_worthOfAll : mOKV m_X3_worthOfAll 3 3 := ⟨⟨in_t1 (List.mem_of_getElem? (i := 5) rfl), in_t5 (List.mem_of_getElem? (i := 12) rfl), by decide⟩, in_t5 (List.mem_of_getElem? (i := 10) rfl), in_t5 (List.mem_of_getElem? (i := 11) rfl), rfl, by decide⟩
set_option maxRecDepth 100000 in
theorem mo_X3_farUpper : mOKV m_X3_farUpper 2 3 := ⟨⟨in_t1 (List.mem_of_getElem? (i := 5) rfl), in_t4 (List.mem_of_getElem? (i := 37) rfl), by decide⟩, in_t4 (List.mem_of_getElem? (i := 35) rfl), in_t4 (List.mem_of_getElem? (i := 36) rfl), rfl, by decide⟩
set_option maxRecDepth 100000 in
theorem mo_X3_farLower : mOKV m_X3_farLower 0 3 := ⟨⟨in_t1 (List.mem_of_getElem? (i := 5) rfl), in_t4 (List.mem_of_getElem? (i := 44) rfl), by decide⟩, in_t4 (List.mem_of_getElem? (i := 42) rfl), in_t4 (List.mem_of_getElem? (i := 43) rfl), rfl, by decide⟩
set_option maxRecDepth 100000 in
theorem mo_X3_distance : mOKV m_X3_distance 2 3 := ⟨⟨in_t1 (List.mem_of_getElem? (i := 5) rfl), in_t4 (List.mem_of_getElem? (i := 58) rfl), by decide⟩, in_t4 (List.mem_of_getElem? (i := 56) rfl), in_t4 (List.mem_of_getElem? (i := 57) rfl), rfl, by decide⟩
set_option maxRecDepth 100000 in
theorem mo_X3_isSettled : mOKV m_X3_isSettled 1 3 := ⟨⟨in_t1 (List.mem_of_getElem? (i := 5) rfl), in_t4 (List.mem_of_getElem? (i := 72) rfl), by decide⟩, in_t4 (List.mem_of_getElem? (i := 70) rfl), in_t4 (List.mem_of_getElem? (i := 71) rfl), rfl, by decide⟩
set_option maxRecDepth 100000 in
theorem mo_X3_changesBalance : mOKV m_X3_changesBalance 2 3 := ⟨⟨in_t1 (List.mem_of_getElem? (i := 5) rfl), in_t4 (List.mem_of_getElem? (i := 76) rfl), by decide⟩, in_t4 (List.mem_of_getElem? (i := 75) rfl), in_s (List.mem_of_getElem? (i := 19) rfl), rfl, by decide⟩
set_option maxRecDepth 100000 in
theorem mo_X3_nearestSettled : mOKV m_X3_nearestSettled 3 3 := ⟨⟨in_t1 (List.mem_of_getElem? (i := 5) rfl), in_t4 (List.mem_of_getElem? (i := 94) rfl), by decide⟩, in_t4 (List.mem_of_getElem? (i := 92) rfl), in_t4 (List.mem_of_getElem? (i := 93) rfl), rfl, by decide⟩
set_option maxRecDepth 100000 in
theorem mo_X3_wander : mOKV m_X3_wander 3 3 := ⟨⟨in_t1 (List.mem_of_getElem? (i := 5) rfl), in_t4 (List.mem_of_getElem? (i := 104) rfl), by decide⟩, in_t4 (List.mem_of_getElem? (i := 102) rfl), in_t4 (List.mem_of_getElem? (i := 103) rfl), rfl, by decide⟩
set_option maxRecDepth 100000 in
theorem mo_X3_transfer : mOKV m_X3_transfer 3 3 := ⟨⟨in_t1 (List.mem_of_getElem? (i := 5) rfl), in_t4 (List.mem_of_getElem? (i := 110) rfl), by decide⟩, in_t4 (List.mem_of_getElem? (i := 109) rfl), in_s (List.mem_of_getElem? (i := 20) rfl), rfl, by decide⟩
set_option maxRecDepth 100000 in
theorem mo_X3_rollOfCuts : mOKV m_X3_rollOfCuts 1 3 := ⟨⟨in_t1 (List.mem_of_getElem? (i := 5) rfl), in_t3 (List.mem_of_getElem? (i := 204) rfl), by decide⟩, in_t3 (List.mem_of_getElem? (i := 202) rfl), in_t3 (List.mem_of_getElem? (i := 203) rfl), rfl, by decide⟩
set_option maxRecDepth 100000 in
theorem mo_X1_init : mOKI m_X1_init 4 1 := ⟨⟨in_t1 (List.mem_of_getElem? (i := 11) rfl), in_t2 (List.mem_of_getElem? (i := 124) rfl), by decide⟩, in_t2 (List.mem_of_getElem? (i := 123) rfl), rfl, rfl, by decide⟩
set_option maxRecDepth 100000 in
theorem mo_X1_start : mOKV m_X1_start 2 1 := ⟨⟨in_t1 (List.mem_of_getElem? (i := 11) rfl), in_t4 (List.mem_of_getElem? (i := 132) rfl), by decide⟩, in_t4 (List.mem_of_getElem? (i := 130) rfl), in_t4 (List.mem_of_getElem? (i := 131) rfl), rfl, by decide⟩
set_option maxRecDepth 100000 in
theorem mo_X1_isOver : mOKV m_X1_isOver 0 1 := ⟨⟨in_t1 (List.mem_of_getElem? (i := 11) rfl), in_t4 (List.mem_of_getElem? (i := 182) rfl), by decide⟩, in_t4 (List.mem_of_getElem? (i := 180) rfl), in_t4 (List.mem_of_getElem? (i := 181) rfl), rfl, by decide⟩
set_option maxRecDepth 100000 in
theorem mo_X1_mover : mOKV m_X1_mover 0 1 := ⟨⟨in_t1 (List.mem_of_getElem? (i := 11) rfl), in_t4 (List.mem_of_getElem? (i := 178) rfl), by decide⟩, in_t4 (List.mem_of_getElem? (i := 176) rfl), in_t4 (List.mem_of_getElem? (i := 177) rfl), rfl, by decide⟩
set_option maxRecDepth 100000 in
theorem mo_X1_enterRound : mOKV m_X1_enterRound 0 1 := ⟨⟨in_t1 (List.mem_of_getElem? (i := 11) rfl), in_t4 (List.mem_of_getElem? (i := 136) rfl), by decide⟩, in_t4 (List.mem_of_getElem? (i := 135) rfl), in_s (List.mem_of_getElem? (i := 22) rfl), rfl, by decide⟩
set_option maxRecDepth 100000 in
theorem mo_X1_canCut : mOKV m_X1_canCut 0 1 := ⟨⟨in_t1 (List.mem_of_getElem? (i := 11) rfl), in_t4 (List.mem_of_getElem? (i := 162) rfl), by decide⟩, in_t4 (List.mem_of_getElem? (i := 161) rfl), in_s (List.mem_of_getElem? (i := 25) rfl), rfl, by decide⟩
set_option maxRecDepth 100000 in
theorem mo_X1_canHalve : mOKV m_X1_canHalve 0 1 := ⟨⟨in_t1 (List.mem_of_getElem? (i := 11) rfl), in_t4 (List.mem_of_getElem? (i := 140) rfl), by decide⟩, in_t4 (List.mem_of_getElem? (i := 139) rfl), in_s (List.mem_of_getElem? (i := 23) rfl), rfl, by decide⟩
set_option maxRecDepth 100000 in
theorem mo_X1_permits : mOKV m_X1_permits 1 1 := ⟨⟨in_t1 (List.mem_of_getElem? (i := 11) rfl), in_t4 (List.mem_of_getElem? (i := 190) rfl), by decide⟩, in_t4 (List.mem_of_getElem? (i := 188) rfl), in_t4 (List.mem_of_getElem? (i := 189) rfl), rfl, by decide⟩
set_option maxRecDepth 100000 in
theorem mo_X1_permitsHalves : mOKV m_X1_permitsHalves 1 1 := ⟨⟨in_t1 (List.mem_of_getElem? (i := 11) rfl), in_t4 (List.mem_of_getElem? (i := 198) rfl), by decide⟩, in_t4 (List.mem_of_getElem? (i := 197) rfl), in_s (List.mem_of_getElem? (i := 27) rfl), rfl, by decide⟩
set_option maxRecDepth 100000 in
theorem mo_X1_permitsJoining : mOKV m_X1_permitsJoining 1 1 := ⟨⟨in_t1 (List.mem_of_getElem? (i := 11) rfl), in_t4 (List.mem_of_getElem? (i := 204) rfl), by decide⟩, in_t4 (List.mem_of_getElem? (i := 203) rfl), in_s (List.mem_of_getElem? (i := 28) rfl), rfl, by decide⟩
set_option maxRecDepth 100000 in
theorem mo_X1_permitsFirst : mOKV m_X1_permitsFirst 1 1 := ⟨⟨in_t1 (List.mem_of_getElem? (i := 11) rfl), in_t4 (List.mem_of_getElem? (i := 208) rfl), by decide⟩, in_t4 (List.mem_of_getElem? (i := 207) rfl), in_s (List.mem_of_getElem? (i := 29) rfl), rfl, by decide⟩
set_option maxRecDepth 100000 in
theorem mo_X1_takeBack : mOKV m_X1_takeBack 0 1 := ⟨⟨in_t1 (List.mem_of_getElem? (i := 11) rfl), in_t4 (List.mem_of_getElem? (i := 229) rfl), by decide⟩, in_t4 (List.mem_of_getElem? (i := 227) rfl), in_t4 (List.mem_of_getElem? (i := 228) rfl), rfl, by decide⟩
set_option maxRecDepth 100000 in
theorem mo_X1_play : mOKV m_X1_play 1 1 := ⟨⟨in_t1 (List.mem_of_getElem? (i := 11) rfl), in_t4 (List.mem_of_getElem? (i := 213) rfl), by decide⟩, in_t4 (List.mem_of_getElem? (i := 211) rfl), in_t4 (List.mem_of_getElem? (i := 212) rfl), rfl, by decide⟩
set_option maxRecDepth 100000 in
theorem mo_X1_keepSeat : mOKV m_X1_keepSeat 1 1 := ⟨⟨in_t1 (List.mem_of_getElem? (i := 11) rfl), in_t4 (List.mem_of_getElem? (i := 217) rfl), by decide⟩, in_t4 (List.mem_of_getElem? (i := 216) rfl), in_s (List.mem_of_getElem? (i := 30) rfl), rfl, by decide⟩
set_option maxRecDepth 100000 in
theorem mo_X1_keepCut : mOKV m_X1_keepCut 1 1 := ⟨⟨in_t1 (List.mem_of_getElem? (i := 11) rfl), in_t4 (List.mem_of_getElem? (i := 221) rfl), by decide⟩, in_t4 (List.mem_of_getElem? (i := 220) rfl), in_s (List.mem_of_getElem? (i := 31) rfl), rfl, by decide⟩
set_option maxRecDepth 100000 in
theorem mo_X2_init : mOKI m_X2_init 1 2 := ⟨⟨in_t1 (List.mem_of_getElem? (i := 9) rfl), in_t2 (List.mem_of_getElem? (i := 51) rfl), by decide⟩, in_t2 (List.mem_of_getElem? (i := 50) rfl), rfl, rfl, by decide⟩
set_option maxRecDepth 100000 in
theorem mo_X2_join : mOKV m_X2_join 5 2 := ⟨⟨in_t1 (List.mem_of_getElem? (i := 9) rfl), in_t4 (List.mem_of_getElem? (i := 147) rfl), by decide⟩, in_t4 (List.mem_of_getElem? (i := 145) rfl), in_t4 (List.mem_of_getElem? (i := 146) rfl), rfl, by decide⟩
set_option maxRecDepth 100000 in
theorem mo_X2_joinFrom : mOKV m_X2_joinFrom 3 2 := ⟨⟨in_t1 (List.mem_of_getElem? (i := 9) rfl), in_t4 (List.mem_of_getElem? (i := 152) rfl), by decide⟩, in_t4 (List.mem_of_getElem? (i := 151) rfl), in_s (List.mem_of_getElem? (i := 24) rfl), rfl, by decide⟩
set_option maxRecDepth 100000 in
theorem mo_X5_init : mOKI m_X5_init 3 5 := ⟨⟨in_t1 (List.mem_of_getElem? (i := 10) rfl), in_t2 (List.mem_of_getElem? (i := 84) rfl), by decide⟩, in_t2 (List.mem_of_getElem? (i := 83) rfl), rfl, rfl, by decide⟩
set_option maxRecDepth 100000 in
theorem mo_X5_prefers : mOKS m_X5_prefers 3 := ⟨⟨in_t1 (List.mem_of_getElem? (i := 10) rfl), in_t4 (List.mem_of_getElem? (i := 156) rfl), by decide⟩, in_t4 (List.mem_of_getElem? (i := 155) rfl)⟩
set_option maxRecDepth 100000 in
theorem mo_X5_worstFor : mOKS m_X5_worstFor 1 := ⟨⟨in_t1 (List.mem_of_getElem? (i := 10) rfl), in_t5 (List.mem_of_getElem? (i := 20) rfl), by decide⟩, in_t5 (List.mem_of_getElem? (i := 19) rfl)⟩
set_option maxRecDepth 100000 in
theorem mo_X5_turnTo : mOKV m_X5_turnTo 4 5 := ⟨⟨in_t1 (List.mem_of_getElem? (i := 10) rfl), in_t5 (List.mem_of_getElem? (i := 3) rfl), by decide⟩, in_t5 (List.mem_of_getElem? (i := 1) rfl), in_t5 (List.mem_of_getElem? (i := 2) rfl), rfl, by decide⟩
set_option maxRecDepth 100000 in
theorem mo_X5_forget : mOKV m_X5_forget 0 5 := ⟨⟨in_t1 (List.mem_of_getElem? (i := 10) rfl), in_t3 (List.mem_of_getElem? (i := 129) rfl), by decide⟩, in_t3 (List.mem_of_getElem? (i := 127) rfl), in_t3 (List.mem_of_getElem? (i := 128) rfl), rfl, by decide⟩
set_option maxRecDepth 100000 in
theorem mo_X5_drawer : mOKV m_X5_drawer 1 5 := ⟨⟨in_t1 (List.mem_of_getElem? (i := 10) rfl), in_t5 (List.mem_of_getElem? (i := 17) rfl), by decide⟩, in_t5 (List.mem_of_getElem? (i := 16) rfl), in_s (List.mem_of_getElem? (i := 32) rfl), rfl, by decide⟩
set_option maxRecDepth 100000 in
theorem mo_X5_weigh : mOKV m_X5_weigh 1 5 := ⟨⟨in_t1 (List.mem_of_getElem? (i := 10) rfl), in_t5 (List.mem_of_getElem? (i := 8) rfl), by decide⟩, in_t5 (List.mem_of_getElem? (i := 6) rfl), in_t5 (List.mem_of_getElem? (i := 7) rfl), rfl, by decide⟩
set_option maxRecDepth 100000 in
theorem mo_X5_ahead : mOKV m_X5_ahead 2 5 := ⟨⟨in_t1 (List.mem_of_getElem? (i := 10) rfl), in_t5 (List.mem_of_getElem? (i := 30) rfl), by decide⟩, in_t5 (List.mem_of_getElem? (i := 29) rfl), in_s (List.mem_of_getElem? (i := 34) rfl), rfl, by decide⟩
set_option maxRecDepth 100000 in
theorem mo_X5_cutsOf : mOKV m_X5_cutsOf 2 5 := ⟨⟨in_t1 (List.mem_of_getElem? (i := 10) rfl), in_t5 (List.mem_of_getElem? (i := 38) rfl), by decide⟩, in_t5 (List.mem_of_getElem? (i := 37) rfl), in_s (List.mem_of_getElem? (i := 36) rfl), rfl, by decide⟩
set_option maxRecDepth 100000 in
theorem mo_X5_drawForKeeping : mOKV m_X5_drawForKeeping 2 5 := ⟨⟨in_t1 (List.mem_of_getElem? (i := 10) rfl), in_t5 (List.mem_of_getElem? (i := 34) rfl), by decide⟩, in_t5 (List.mem_of_getElem? (i := 33) rfl), in_s (List.mem_of_getElem? (i := 35) rfl), rfl, by decide⟩
set_option maxRecDepth 100000 in
theorem mo_X5_keepOne : mOKV m_X5_keepOne 4 5 := ⟨⟨in_t1 (List.mem_of_getElem? (i := 10) rfl), in_t5 (List.mem_of_getElem? (i := 24) rfl), by decide⟩, in_t5 (List.mem_of_getElem? (i := 23) rfl), in_s (List.mem_of_getElem? (i := 33) rfl), rfl, by decide⟩
set_option maxRecDepth 100000 in
theorem mo_X5_drawAll : mOKV m_X5_drawAll 2 5 := ⟨⟨in_t1 (List.mem_of_getElem? (i := 10) rfl), in_t5 (List.mem_of_getElem? (i := 59) rfl), by decide⟩, in_t5 (List.mem_of_getElem? (i := 58) rfl), in_s (List.mem_of_getElem? (i := 40) rfl), rfl, by decide⟩
set_option maxRecDepth 100000 in
theorem mo_X5_drawHalves : mOKV m_X5_drawHalves 2 5 := ⟨⟨in_t1 (List.mem_of_getElem? (i := 10) rfl), in_t5 (List.mem_of_getElem? (i := 46) rfl), by decide⟩, in_t5 (List.mem_of_getElem? (i := 45) rfl), in_s (List.mem_of_getElem? (i := 37) rfl), rfl, by decide⟩
set_option maxRecDepth 100000 in
theorem mo_X5_joinHalves : mOKV m_X5_joinHalves 2 5 := ⟨⟨in_t1 (List.mem_of_getElem? (i := 10) rfl), in_t5 (List.mem_of_getElem? (i := 63) rfl), by decide⟩, in_t5 (List.mem_of_getElem? (i := 62) rfl), in_s (List.mem_of_getElem? (i := 41) rfl), rfl, by decide⟩
set_option maxRecDepth 100000 in
theorem mo_X5_drawFirst : mOKV m_X5_drawFirst 2 5 := ⟨⟨in_t1 (List.mem_of_getElem? (i := 10) rfl), in_t5 (List.mem_of_getElem? (i := 51) rfl), by decide⟩, in_t5 (List.mem_of_getElem? (i := 50) rfl), in_s (List.mem_of_getElem? (i := 38) rfl), rfl, by decide⟩
set_option maxRecDepth 100000 in
theorem mo_X5_lowestWorth : mOKV m_X5_lowestWorth 3 5 := ⟨⟨in_t1 (List.mem_of_getElem? (i := 10) rfl), in_t5 (List.mem_of_getElem? (i := 55) rfl), by decide⟩, in_t5 (List.mem_of_getElem? (i := 54) rfl), in_s (List.mem_of_getElem? (i := 39) rfl), rfl, by decide⟩
set_option maxRecDepth 100000 in
theorem mo_X5_worthOfCut : mOKV m_X5_worthOfCut 2 5 := ⟨⟨in_t1 (List.mem_of_getElem? (i := 10) rfl), in_t5 (List.mem_of_getElem? (i := 71) rfl), by decide⟩, in_t5 (List.mem_of_getElem? (i := 70) rfl), in_s (List.mem_of_getElem? (i := 43) rfl), rfl, by decide⟩
set_option maxRecDepth 100000 in
theorem mo_X5_drawSecond : mOKV m_X5_drawSecond 1 5 := ⟨⟨in_t1 (List.mem_of_getElem? (i := 10) rfl), in_t5 (List.mem_of_getElem? (i := 67) rfl), by decide⟩, in_t5 (List.mem_of_getElem? (i := 66) rfl), in_s (List.mem_of_getElem? (i := 42) rfl), rfl, by decide⟩
set_option maxRecDepth 100000 in
theorem mo_X5_takeOne : mOKV m_X5_takeOne 1 5 := ⟨⟨in_t1 (List.mem_of_getElem? (i := 10) rfl), in_t5 (List.mem_of_getElem? (i := 76) rfl), by decide⟩, in_t5 (List.mem_of_getElem? (i := 75) rfl), in_s (List.mem_of_getElem? (i := 44) rfl), rfl, by decide⟩
set_option maxRecDepth 100000 in
theorem mo_X10_init : mOKI m_X10_init 0 10 := ⟨⟨in_t1 (List.mem_of_getElem? (i := 1) rfl), in_t1 (List.mem_of_getElem? (i := 24) rfl), by decide⟩, in_t1 (List.mem_of_getElem? (i := 23) rfl), rfl, rfl, by decide⟩
set_option maxRecDepth 100000 in
theorem mo_X10_feed : mOKV m_X10_feed 5 10 := ⟨⟨in_t1 (List.mem_of_getElem? (i := 1) rfl), in_t3 (List.mem_of_getElem? (i := 10) rfl), by decide⟩, in_t3 (List.mem_of_getElem? (i := 8) rfl), in_t3 (List.mem_of_getElem? (i := 9) rfl), rfl, by decide⟩
set_option maxRecDepth 100000 in
theorem mo_X10_end : mOKV m_X10_end 1 10 := ⟨⟨in_t1 (List.mem_of_getElem? (i := 1) rfl), in_t3 (List.mem_of_getElem? (i := 21) rfl), by decide⟩, in_t3 (List.mem_of_getElem? (i := 19) rfl), in_t3 (List.mem_of_getElem? (i := 20) rfl), rfl, by decide⟩
set_option maxRecDepth 100000 in
theorem mo_X10_fault : mOKV m_X10_fault 1 10 := ⟨⟨in_t1 (List.mem_of_getElem? (i := 1) rfl), in_t3 (List.mem_of_getElem? (i := 25) rfl), by decide⟩, in_t3 (List.mem_of_getElem? (i := 23) rfl), in_t3 (List.mem_of_getElem? (i := 24) rfl), rfl, by decide⟩
set_option maxRecDepth 100000 in
theorem mo_X10_land : mOKV m_X10_land 0 10 := ⟨⟨in_t1 (List.mem_of_getElem? (i := 1) rfl), in_t3 (List.mem_of_getElem? (i := 102) rfl), by decide⟩, in_t3 (List.mem_of_getElem? (i := 100) rfl), in_t3 (List.mem_of_getElem? (i := 101) rfl), rfl, by decide⟩
set_option maxRecDepth 100000 in
theorem mo_X10_protocol : mOKV m_X10_protocol 0 10 := ⟨⟨in_t1 (List.mem_of_getElem? (i := 1) rfl), in_t3 (List.mem_of_getElem? (i := 106) rfl), by decide⟩, in_t3 (List.mem_of_getElem? (i := 104) rfl), in_t3 (List.mem_of_getElem? (i := 105) rfl), rfl, by decide⟩
set_option maxRecDepth 100000 in
theorem mo_X10_told : mOKV m_X10_told 2 10 := ⟨⟨in_t1 (List.mem_of_getElem? (i := 1) rfl), in_t3 (List.mem_of_getElem? (i := 110) rfl), by decide⟩, in_t3 (List.mem_of_getElem? (i := 108) rfl), in_t3 (List.mem_of_getElem? (i := 109) rfl), rfl, by decide⟩
set_option maxRecDepth 100000 in
theorem mo_X10_vote : mOKV m_X10_vote 4 10 := ⟨⟨in_t1 (List.mem_of_getElem? (i := 1) rfl), in_t3 (List.mem_of_getElem? (i := 122) rfl), by decide⟩, in_t3 (List.mem_of_getElem? (i := 120) rfl), in_t3 (List.mem_of_getElem? (i := 121) rfl), rfl, by decide⟩
set_option maxRecDepth 100000 in
theorem mo_X10_judge : mOKV m_X10_judge 2 10 := ⟨⟨in_t1 (List.mem_of_getElem? (i := 1) rfl), in_t3 (List.mem_of_getElem? (i := 139) rfl), by decide⟩, in_t3 (List.mem_of_getElem? (i := 137) rfl), in_t3 (List.mem_of_getElem? (i := 138) rfl), rfl, by decide⟩
set_option maxRecDepth 100000 in
theorem mo_X10_won : mOKV m_X10_won 3 10 := ⟨⟨in_t1 (List.mem_of_getElem? (i := 1) rfl), in_t3 (List.mem_of_getElem? (i := 179) rfl), by decide⟩, in_t3 (List.mem_of_getElem? (i := 177) rfl), in_t3 (List.mem_of_getElem? (i := 178) rfl), rfl, by decide⟩
set_option maxRecDepth 100000 in
theorem mo_X10_seats : mOKV m_X10_seats 3 10 := ⟨⟨in_t1 (List.mem_of_getElem? (i := 1) rfl), in_t3 (List.mem_of_getElem? (i := 191) rfl), by decide⟩, in_t3 (List.mem_of_getElem? (i := 189) rfl), in_t3 (List.mem_of_getElem? (i := 190) rfl), rfl, by decide⟩
set_option maxRecDepth 100000 in
theorem mo_X10_all : mOKV m_X10_all 2 10 := ⟨⟨in_t1 (List.mem_of_getElem? (i := 1) rfl), in_t3 (List.mem_of_getElem? (i := 200) rfl), by decide⟩, in_t3 (List.mem_of_getElem? (i := 198) rfl), in_t3 (List.mem_of_getElem? (i := 199) rfl), rfl, by decide⟩
set_option maxRecDepth 100000 in
theorem mo_X10_alone : mOKV m_X10_alone 3 10 := ⟨⟨in_t1 (List.mem_of_getElem? (i := 1) rfl), in_t4 (List.mem_of_getElem? (i := 1) rfl), by decide⟩, in_t3 (List.mem_of_getElem? (i := 239) rfl), in_t4 (List.mem_of_getElem? (i := 0) rfl), rfl, by decide⟩
set_option maxRecDepth 100000 in
theorem mo_X10_luck : mOKV m_X10_luck 4 10 := ⟨⟨in_t1 (List.mem_of_getElem? (i := 1) rfl), in_t4 (List.mem_of_getElem? (i := 25) rfl), by decide⟩, in_t4 (List.mem_of_getElem? (i := 23) rfl), in_t4 (List.mem_of_getElem? (i := 24) rfl), rfl, by decide⟩
set_option maxRecDepth 100000 in
theorem mo_X10_far : mOKV m_X10_far 4 10 := ⟨⟨in_t1 (List.mem_of_getElem? (i := 1) rfl), in_t4 (List.mem_of_getElem? (i := 33) rfl), by decide⟩, in_t4 (List.mem_of_getElem? (i := 31) rfl), in_t4 (List.mem_of_getElem? (i := 32) rfl), rfl, by decide⟩
set_option maxRecDepth 100000 in
theorem mo_X10_apart : mOKV m_X10_apart 3 10 := ⟨⟨in_t1 (List.mem_of_getElem? (i := 1) rfl), in_t4 (List.mem_of_getElem? (i := 53) rfl), by decide⟩, in_t4 (List.mem_of_getElem? (i := 51) rfl), in_t4 (List.mem_of_getElem? (i := 52) rfl), rfl, by decide⟩
set_option maxRecDepth 100000 in
theorem mo_X10_settled : mOKV m_X10_settled 2 10 := ⟨⟨in_t1 (List.mem_of_getElem? (i := 1) rfl), in_t4 (List.mem_of_getElem? (i := 68) rfl), by decide⟩, in_t4 (List.mem_of_getElem? (i := 66) rfl), in_t4 (List.mem_of_getElem? (i := 67) rfl), rfl, by decide⟩
set_option maxRecDepth 100000 in
theorem mo_X10_near : mOKV m_X10_near 2 10 := ⟨⟨in_t1 (List.mem_of_getElem? (i := 1) rfl), in_t4 (List.mem_of_getElem? (i := 90) rfl), by decide⟩, in_t4 (List.mem_of_getElem? (i := 88) rfl), in_t4 (List.mem_of_getElem? (i := 89) rfl), rfl, by decide⟩
set_option maxRecDepth 100000 in
theorem mo_X10_walk : mOKV m_X10_walk 4 10 := ⟨⟨in_t1 (List.mem_of_getElem? (i := 1) rfl), in_t4 (List.mem_of_getElem? (i := 100) rfl), by decide⟩, in_t4 (List.mem_of_getElem? (i := 98) rfl), in_t4 (List.mem_of_getElem? (i := 99) rfl), rfl, by decide⟩
set_option maxRecDepth 100000 in
theorem mo_X10_game : mOKV m_X10_game 2 10 := ⟨⟨in_t1 (List.mem_of_getElem? (i := 1) rfl), in_t4 (List.mem_of_getElem? (i := 124) rfl), by decide⟩, in_t4 (List.mem_of_getElem? (i := 122) rfl), in_t4 (List.mem_of_getElem? (i := 123) rfl), rfl, by decide⟩
set_option maxRecDepth 100000 in
theorem mo_X10_phase : mOKV m_X10_phase 1 10 := ⟨⟨in_t1 (List.mem_of_getElem? (i := 1) rfl), in_t4 (List.mem_of_getElem? (i := 166) rfl), by decide⟩, in_t4 (List.mem_of_getElem? (i := 164) rfl), in_t4 (List.mem_of_getElem? (i := 165) rfl), rfl, by decide⟩
set_option maxRecDepth 100000 in
theorem mo_X10_turn : mOKV m_X10_turn 1 10 := ⟨⟨in_t1 (List.mem_of_getElem? (i := 1) rfl), in_t4 (List.mem_of_getElem? (i := 174) rfl), by decide⟩, in_t4 (List.mem_of_getElem? (i := 172) rfl), in_t4 (List.mem_of_getElem? (i := 173) rfl), rfl, by decide⟩
set_option maxRecDepth 100000 in
theorem mo_X10_move : mOKV m_X10_move 2 10 := ⟨⟨in_t1 (List.mem_of_getElem? (i := 1) rfl), in_t4 (List.mem_of_getElem? (i := 186) rfl), by decide⟩, in_t4 (List.mem_of_getElem? (i := 184) rfl), in_t4 (List.mem_of_getElem? (i := 185) rfl), rfl, by decide⟩
set_option maxRecDepth 100000 in
theorem mo_X10_undo : mOKV m_X10_undo 1 10 := ⟨⟨in_t1 (List.mem_of_getElem? (i := 1) rfl), in_t4 (List.mem_of_getElem? (i := 225) rfl), by decide⟩, in_t4 (List.mem_of_getElem? (i := 223) rfl), in_t4 (List.mem_of_getElem? (i := 224) rfl), rfl, by decide⟩
set_option maxRecDepth 100000 in
theorem mo_X10_best : mOKV m_X10_best 2 10 := ⟨⟨in_t1 (List.mem_of_getElem? (i := 1) rfl), in_t4 (List.mem_of_getElem? (i := 235) rfl), by decide⟩, in_t4 (List.mem_of_getElem? (i := 233) rfl), in_t4 (List.mem_of_getElem? (i := 234) rfl), rfl, by decide⟩
set_option maxRecDepth 100000 in
theorem mo_X10_value : mOKV m_X10_value 2 10 := ⟨⟨in_t1 (List.mem_of_getElem? (i := 1) rfl), in_t5 (List.mem_of_getElem? (i := 80) rfl), by decide⟩, in_t5 (List.mem_of_getElem? (i := 78) rfl), in_t5 (List.mem_of_getElem? (i := 79) rfl), rfl, by decide⟩
set_option maxRecDepth 100000 in
theorem mo_X10_kept : mOKV m_X10_kept 2 10 := ⟨⟨in_t1 (List.mem_of_getElem? (i := 1) rfl), in_t5 (List.mem_of_getElem? (i := 87) rfl), by decide⟩, in_t5 (List.mem_of_getElem? (i := 85) rfl), in_t5 (List.mem_of_getElem? (i := 86) rfl), rfl, by decide⟩
set_option maxRecDepth 100000 in
theorem mo_X10_sure : mOKV m_X10_sure 3 10 := ⟨⟨in_t1 (List.mem_of_getElem? (i := 1) rfl), in_t5 (List.mem_of_getElem? (i := 91) rfl), by decide⟩, in_t5 (List.mem_of_getElem? (i := 89) rfl), in_t5 (List.mem_of_getElem? (i := 90) rfl), rfl, by decide⟩
set_option maxRecDepth 100000 in
theorem mo_X10_ended : mOKV m_X10_ended 2 10 := ⟨⟨in_t1 (List.mem_of_getElem? (i := 1) rfl), in_t5 (List.mem_of_getElem? (i := 99) rfl), by decide⟩, in_t5 (List.mem_of_getElem? (i := 97) rfl), in_t5 (List.mem_of_getElem? (i := 98) rfl), rfl, by decide⟩
set_option maxRecDepth 100000 in
theorem mo_X10_first : mOKV m_X10_first 2 10 := ⟨⟨in_t1 (List.mem_of_getElem? (i := 1) rfl), in_t5 (List.mem_of_getElem? (i := 108) rfl), by decide⟩, in_t5 (List.mem_of_getElem? (i := 106) rfl), in_t5 (List.mem_of_getElem? (i := 107) rfl), rfl, by decide⟩
set_option maxRecDepth 100000 in
theorem mo_X10_worst : mOKV m_X10_worst 1 10 := ⟨⟨in_t1 (List.mem_of_getElem? (i := 1) rfl), in_t5 (List.mem_of_getElem? (i := 112) rfl), by decide⟩, in_t5 (List.mem_of_getElem? (i := 110) rfl), in_t5 (List.mem_of_getElem? (i := 111) rfl), rfl, by decide⟩
set_option maxRecDepth 100000 in
theorem mo_X10_worse : mOKV m_X10_worse 2 10 := ⟨⟨in_t1 (List.mem_of_getElem? (i := 1) rfl), in_t5 (List.mem_of_getElem? (i := 120) rfl), by decide⟩, in_t5 (List.mem_of_getElem? (i := 118) rfl), in_t5 (List.mem_of_getElem? (i := 119) rfl), rfl, by decide⟩
set_option maxRecDepth 100000 in
theorem mo_X10_count : mOKV m_X10_count 1 10 := ⟨⟨in_t1 (List.mem_of_getElem? (i := 1) rfl), in_t5 (List.mem_of_getElem? (i := 124) rfl), by decide⟩, in_t5 (List.mem_of_getElem? (i := 122) rfl), in_t5 (List.mem_of_getElem? (i := 123) rfl), rfl, by decide⟩
set_option maxRecDepth 100000 in
theorem mo_X10_isParty : mOKS m_X10_isParty 1 := ⟨⟨in_t1 (List.mem_of_getElem? (i := 1) rfl), in_t3 (List.mem_of_getElem? (i := 125) rfl), by decide⟩, in_t3 (List.mem_of_getElem? (i := 124) rfl)⟩
set_option maxRecDepth 100000 in
theorem mo_X10_isGoal : mOKS m_X10_isGoal 1 := ⟨⟨in_t1 (List.mem_of_getElem? (i := 1) rfl), in_t4 (List.mem_of_getElem? (i := 238) rfl), by decide⟩, in_t4 (List.mem_of_getElem? (i := 237) rfl)⟩
set_option maxRecDepth 100000 in
theorem mo_X10_asGoal : mOKS m_X10_asGoal 2 := ⟨⟨in_t1 (List.mem_of_getElem? (i := 1) rfl), in_t5 (List.mem_of_getElem? (i := 83) rfl), by decide⟩, in_t5 (List.mem_of_getElem? (i := 82) rfl)⟩
set_option maxRecDepth 100000 in
theorem mo_X10_commonPart : mOKS m_X10_commonPart 2 := ⟨⟨in_t1 (List.mem_of_getElem? (i := 1) rfl), in_t4 (List.mem_of_getElem? (i := 48) rfl), by decide⟩, in_t4 (List.mem_of_getElem? (i := 47) rfl)⟩
set_option maxRecDepth 100000 in
theorem mo_X10_landAt : mOKV m_X10_landAt 1 10 := ⟨⟨in_t1 (List.mem_of_getElem? (i := 1) rfl), in_t3 (List.mem_of_getElem? (i := 114) rfl), by decide⟩, in_t3 (List.mem_of_getElem? (i := 113) rfl), in_s (List.mem_of_getElem? (i := 9) rfl), rfl, by decide⟩
set_option maxRecDepth 100000 in
theorem mo_X10_protocolAt : mOKV m_X10_protocolAt 1 10 := ⟨⟨in_t1 (List.mem_of_getElem? (i := 1) rfl), in_t4 (List.mem_of_getElem? (i := 128) rfl), by decide⟩, in_t4 (List.mem_of_getElem? (i := 127) rfl), in_s (List.mem_of_getElem? (i := 21) rfl), rfl, by decide⟩
set_option maxRecDepth 100000 in
theorem mo_X10_gameAt : mOKV m_X10_gameAt 1 10 := ⟨⟨in_t1 (List.mem_of_getElem? (i := 1) rfl), in_t4 (List.mem_of_getElem? (i := 170) rfl), by decide⟩, in_t4 (List.mem_of_getElem? (i := 169) rfl), in_s (List.mem_of_getElem? (i := 26) rfl), rfl, by decide⟩
set_option maxRecDepth 100000 in
theorem mo_X10_readyLand : mOKV m_X10_readyLand 1 10 := ⟨⟨in_t1 (List.mem_of_getElem? (i := 1) rfl), in_t3 (List.mem_of_getElem? (i := 143) rfl), by decide⟩, in_t3 (List.mem_of_getElem? (i := 142) rfl), in_s (List.mem_of_getElem? (i := 10) rfl), rfl, by decide⟩
set_option maxRecDepth 100000 in
theorem mo_X10_landWithLawful : mOKV m_X10_landWithLawful 2 10 := ⟨⟨in_t1 (List.mem_of_getElem? (i := 1) rfl), in_t3 (List.mem_of_getElem? (i := 183) rfl), by decide⟩, in_t3 (List.mem_of_getElem? (i := 182) rfl), in_s (List.mem_of_getElem? (i := 15) rfl), rfl, by decide⟩
set_option maxRecDepth 100000 in
theorem mo_X10_gamesOver : mOKV m_X10_gamesOver 0 10 := ⟨⟨in_t1 (List.mem_of_getElem? (i := 1) rfl), in_t5 (List.mem_of_getElem? (i := 128) rfl), by decide⟩, in_t5 (List.mem_of_getElem? (i := 127) rfl), in_s (List.mem_of_getElem? (i := 48) rfl), rfl, by decide⟩
set_option maxRecDepth 100000 in
theorem mo_X10_answer : mOKV m_X10_answer 3 10 := ⟨⟨in_t1 (List.mem_of_getElem? (i := 1) rfl), in_t5 (List.mem_of_getElem? (i := 95) rfl), by decide⟩, in_t5 (List.mem_of_getElem? (i := 94) rfl), in_s (List.mem_of_getElem? (i := 45) rfl), rfl, by decide⟩
set_option maxRecDepth 100000 in
theorem mo_X10_endOf : mOKV m_X10_endOf 2 10 := ⟨⟨in_t1 (List.mem_of_getElem? (i := 1) rfl), in_t5 (List.mem_of_getElem? (i := 103) rfl), by decide⟩, in_t5 (List.mem_of_getElem? (i := 102) rfl), in_s (List.mem_of_getElem? (i := 46) rfl), rfl, by decide⟩
set_option maxRecDepth 100000 in
theorem mo_X10_farOfEnd : mOKV m_X10_farOfEnd 2 10 := ⟨⟨in_t1 (List.mem_of_getElem? (i := 1) rfl), in_t5 (List.mem_of_getElem? (i := 116) rfl), by decide⟩, in_t5 (List.mem_of_getElem? (i := 115) rfl), in_s (List.mem_of_getElem? (i := 47) rfl), rfl, by decide⟩
set_option maxRecDepth 100000 in
theorem mo_X11_in : mOKS m_X11_in 3 := ⟨⟨in_t1 (List.mem_of_getElem? (i := 13) rfl), in_t6 (List.mem_of_getElem? (i := 172) rfl), by decide⟩, in_t6 (List.mem_of_getElem? (i := 171) rfl)⟩
set_option maxRecDepth 100000 in
theorem mo_X11_init : mOKI m_X11_init 0 11 := ⟨⟨in_t1 (List.mem_of_getElem? (i := 13) rfl), in_t5 (List.mem_of_getElem? (i := 202) rfl), by decide⟩, in_t5 (List.mem_of_getElem? (i := 201) rfl), rfl, rfl, by decide⟩
set_option maxRecDepth 100000 in
theorem mo_X11_thrown : mOKV m_X11_thrown 0 11 := ⟨⟨in_t1 (List.mem_of_getElem? (i := 13) rfl), in_t6 (List.mem_of_getElem? (i := 132) rfl), by decide⟩, in_t6 (List.mem_of_getElem? (i := 130) rfl), in_t6 (List.mem_of_getElem? (i := 131) rfl), rfl, by decide⟩
set_option maxRecDepth 100000 in
theorem mo_X11_byteOf : mOKS m_X11_byteOf 6 := ⟨⟨in_t1 (List.mem_of_getElem? (i := 13) rfl), in_t6 (List.mem_of_getElem? (i := 139) rfl), by decide⟩, in_t6 (List.mem_of_getElem? (i := 138) rfl)⟩
set_option maxRecDepth 100000 in
theorem mo_X11_feed : mOKV m_X11_feed 5 11 := ⟨⟨in_t1 (List.mem_of_getElem? (i := 13) rfl), in_t6 (List.mem_of_getElem? (i := 136) rfl), by decide⟩, in_t6 (List.mem_of_getElem? (i := 134) rfl), in_t6 (List.mem_of_getElem? (i := 135) rfl), rfl, by decide⟩
set_option maxRecDepth 100000 in
theorem mo_X11_end : mOKV m_X11_end 1 11 := ⟨⟨in_t1 (List.mem_of_getElem? (i := 13) rfl), in_t6 (List.mem_of_getElem? (i := 143) rfl), by decide⟩, in_t6 (List.mem_of_getElem? (i := 141) rfl), in_t6 (List.mem_of_getElem? (i := 142) rfl), rfl, by decide⟩
set_option maxRecDepth 100000 in
theorem mo_X11_look : mOKV m_X11_look 0 11 := ⟨⟨in_t1 (List.mem_of_getElem? (i := 13) rfl), in_t6 (List.mem_of_getElem? (i := 162) rfl), by decide⟩, in_t6 (List.mem_of_getElem? (i := 161) rfl), in_s (List.mem_of_getElem? (i := 52) rfl), rfl, by decide⟩
set_option maxRecDepth 100000 in
theorem mo_X11_bad : mOKV m_X11_bad 1 11 := ⟨⟨in_t1 (List.mem_of_getElem? (i := 13) rfl), in_t6 (List.mem_of_getElem? (i := 169) rfl), by decide⟩, in_t6 (List.mem_of_getElem? (i := 168) rfl), in_s (List.mem_of_getElem? (i := 53) rfl), rfl, by decide⟩
set_option maxRecDepth 100000 in
theorem mo_X11_isDigit : mOKS m_X11_isDigit 1 := ⟨⟨in_t1 (List.mem_of_getElem? (i := 13) rfl), in_t6 (List.mem_of_getElem? (i := 165) rfl), by decide⟩, in_t6 (List.mem_of_getElem? (i := 164) rfl)⟩
set_option maxRecDepth 100000 in
theorem mo_X11_number : mOKV m_X11_number 3 11 := ⟨⟨in_t1 (List.mem_of_getElem? (i := 13) rfl), in_t6 (List.mem_of_getElem? (i := 158) rfl), by decide⟩, in_t6 (List.mem_of_getElem? (i := 157) rfl), in_s (List.mem_of_getElem? (i := 51) rfl), rfl, by decide⟩
set_option maxRecDepth 100000 in
theorem mo_X11_sign : mOKV m_X11_sign 1 11 := ⟨⟨in_t1 (List.mem_of_getElem? (i := 13) rfl), in_t6 (List.mem_of_getElem? (i := 176) rfl), by decide⟩, in_t6 (List.mem_of_getElem? (i := 175) rfl), in_s (List.mem_of_getElem? (i := 54) rfl), rfl, by decide⟩
set_option maxRecDepth 100000 in
theorem mo_X11_voteAt : mOKS m_X11_voteAt 3 := ⟨⟨in_t1 (List.mem_of_getElem? (i := 13) rfl), in_t6 (List.mem_of_getElem? (i := 154) rfl), by decide⟩, in_t6 (List.mem_of_getElem? (i := 153) rfl)⟩
set_option maxRecDepth 100000 in
theorem mo_X11_readLand : mOKV m_X11_readLand 1 11 := ⟨⟨in_t1 (List.mem_of_getElem? (i := 13) rfl), in_t6 (List.mem_of_getElem? (i := 151) rfl), by decide⟩, in_t6 (List.mem_of_getElem? (i := 150) rfl), in_s (List.mem_of_getElem? (i := 50) rfl), rfl, by decide⟩
set_option maxRecDepth 100000 in
theorem mo_X11_sentence : mOKV m_X11_sentence 1 11 := ⟨⟨in_t1 (List.mem_of_getElem? (i := 13) rfl), in_t6 (List.mem_of_getElem? (i := 181) rfl), by decide⟩, in_t6 (List.mem_of_getElem? (i := 180) rfl), in_s (List.mem_of_getElem? (i := 55) rfl), rfl, by decide⟩
set_option maxRecDepth 100000 in
theorem mo_X11_tellVotes : mOKV m_X11_tellVotes 2 11 := ⟨⟨in_t1 (List.mem_of_getElem? (i := 13) rfl), in_t6 (List.mem_of_getElem? (i := 185) rfl), by decide⟩, in_t6 (List.mem_of_getElem? (i := 184) rfl), in_s (List.mem_of_getElem? (i := 56) rfl), rfl, by decide⟩
set_option maxRecDepth 100000 in
theorem mo_X11_readProtocol : mOKV m_X11_readProtocol 1 11 := ⟨⟨in_t1 (List.mem_of_getElem? (i := 13) rfl), in_t6 (List.mem_of_getElem? (i := 189) rfl), by decide⟩, in_t6 (List.mem_of_getElem? (i := 188) rfl), in_s (List.mem_of_getElem? (i := 57) rfl), rfl, by decide⟩
set_option maxRecDepth 100000 in
theorem mo_X11_round : mOKV m_X11_round 1 11 := ⟨⟨in_t1 (List.mem_of_getElem? (i := 13) rfl), in_t6 (List.mem_of_getElem? (i := 193) rfl), by decide⟩, in_t6 (List.mem_of_getElem? (i := 192) rfl), in_s (List.mem_of_getElem? (i := 58) rfl), rfl, by decide⟩
set_option maxRecDepth 100000 in
theorem mo_X11_fault : mOKV m_X11_fault 1 11 := ⟨⟨in_t1 (List.mem_of_getElem? (i := 13) rfl), in_t6 (List.mem_of_getElem? (i := 147) rfl), by decide⟩, in_t6 (List.mem_of_getElem? (i := 145) rfl), in_t6 (List.mem_of_getElem? (i := 146) rfl), rfl, by decide⟩
set_option maxRecDepth 100000 in
theorem mo_X11_land : mOKV m_X11_land 0 11 := ⟨⟨in_t1 (List.mem_of_getElem? (i := 13) rfl), in_t6 (List.mem_of_getElem? (i := 197) rfl), by decide⟩, in_t6 (List.mem_of_getElem? (i := 195) rfl), in_t6 (List.mem_of_getElem? (i := 196) rfl), rfl, by decide⟩
set_option maxRecDepth 100000 in
theorem mo_X11_protocol : mOKV m_X11_protocol 0 11 := ⟨⟨in_t1 (List.mem_of_getElem? (i := 13) rfl), in_t6 (List.mem_of_getElem? (i := 201) rfl), by decide⟩, in_t6 (List.mem_of_getElem? (i := 199) rfl), in_t6 (List.mem_of_getElem? (i := 200) rfl), rfl, by decide⟩
set_option maxRecDepth 100000 in
theorem mo_X11_isLand : mOKV m_X11_isLand 1 11 := ⟨⟨in_t1 (List.mem_of_getElem? (i := 13) rfl), in_t6 (List.mem_of_getElem? (i := 209) rfl), by decide⟩, in_t6 (List.mem_of_getElem? (i := 208) rfl), in_s (List.mem_of_getElem? (i := 59) rfl), rfl, by decide⟩
set_option maxRecDepth 100000 in
theorem mo_X11_isParish : mOKV m_X11_isParish 2 11 := ⟨⟨in_t1 (List.mem_of_getElem? (i := 13) rfl), in_t6 (List.mem_of_getElem? (i := 221) rfl), by decide⟩, in_t6 (List.mem_of_getElem? (i := 220) rfl), in_s (List.mem_of_getElem? (i := 61) rfl), rfl, by decide⟩
set_option maxRecDepth 100000 in
theorem mo_X11_isParty : mOKS m_X11_isParty 1 := ⟨⟨in_t1 (List.mem_of_getElem? (i := 13) rfl), in_t7 (List.mem_of_getElem? (i := 42) rfl), by decide⟩, in_t7 (List.mem_of_getElem? (i := 41) rfl)⟩
set_option maxRecDepth 100000 in
theorem mo_X11_allVotes : mOKV m_X11_allVotes 2 11 := ⟨⟨in_t1 (List.mem_of_getElem? (i := 13) rfl), in_t6 (List.mem_of_getElem? (i := 213) rfl), by decide⟩, in_t6 (List.mem_of_getElem? (i := 212) rfl), in_s (List.mem_of_getElem? (i := 60) rfl), rfl, by decide⟩
set_option maxRecDepth 100000 in
theorem mo_X11_told : mOKV m_X11_told 2 11 := ⟨⟨in_t1 (List.mem_of_getElem? (i := 13) rfl), in_t6 (List.mem_of_getElem? (i := 205) rfl), by decide⟩, in_t6 (List.mem_of_getElem? (i := 203) rfl), in_t6 (List.mem_of_getElem? (i := 204) rfl), rfl, by decide⟩
set_option maxRecDepth 100000 in
theorem mo_X11_staying : mOKV m_X11_staying 2 11 := ⟨⟨in_t1 (List.mem_of_getElem? (i := 13) rfl), in_t6 (List.mem_of_getElem? (i := 225) rfl), by decide⟩, in_t6 (List.mem_of_getElem? (i := 224) rfl), in_s (List.mem_of_getElem? (i := 62) rfl), rfl, by decide⟩
set_option maxRecDepth 100000 in
theorem mo_X11_parish : mOKV m_X11_parish 3 11 := ⟨⟨in_t1 (List.mem_of_getElem? (i := 13) rfl), in_t6 (List.mem_of_getElem? (i := 217) rfl), by decide⟩, in_t6 (List.mem_of_getElem? (i := 215) rfl), in_t6 (List.mem_of_getElem? (i := 216) rfl), rfl, by decide⟩
set_option maxRecDepth 100000 in
theorem mo_X11_failing : mOKV m_X11_failing 2 11 := ⟨⟨in_t1 (List.mem_of_getElem? (i := 13) rfl), in_t7 (List.mem_of_getElem? (i := 1) rfl), by decide⟩, in_t7 (List.mem_of_getElem? (i := 0) rfl), in_s (List.mem_of_getElem? (i := 65) rfl), rfl, by decide⟩
set_option maxRecDepth 100000 in
theorem mo_X11_winning : mOKV m_X11_winning 2 11 := ⟨⟨in_t1 (List.mem_of_getElem? (i := 13) rfl), in_t7 (List.mem_of_getElem? (i := 5) rfl), by decide⟩, in_t7 (List.mem_of_getElem? (i := 4) rfl), in_s (List.mem_of_getElem? (i := 66) rfl), rfl, by decide⟩
set_option maxRecDepth 100000 in
theorem mo_X11_prepare : mOKV m_X11_prepare 1 11 := ⟨⟨in_t1 (List.mem_of_getElem? (i := 13) rfl), in_t6 (List.mem_of_getElem? (i := 237) rfl), by decide⟩, in_t6 (List.mem_of_getElem? (i := 236) rfl), in_s (List.mem_of_getElem? (i := 64) rfl), rfl, by decide⟩
set_option maxRecDepth 100000 in
theorem mo_X11_digit : mOKV m_X11_digit 2 11 := ⟨⟨in_t1 (List.mem_of_getElem? (i := 13) rfl), in_t7 (List.mem_of_getElem? (i := 22) rfl), by decide⟩, in_t7 (List.mem_of_getElem? (i := 21) rfl), in_s (List.mem_of_getElem? (i := 70) rfl), rfl, by decide⟩
set_option maxRecDepth 100000 in
theorem mo_X11_seatOf : mOKV m_X11_seatOf 3 11 := ⟨⟨in_t1 (List.mem_of_getElem? (i := 13) rfl), in_t7 (List.mem_of_getElem? (i := 26) rfl), by decide⟩, in_t7 (List.mem_of_getElem? (i := 25) rfl), in_s (List.mem_of_getElem? (i := 71) rfl), rfl, by decide⟩
set_option maxRecDepth 100000 in
theorem mo_X11_isNumbered : mOKV m_X11_isNumbered 3 11 := ⟨⟨in_t1 (List.mem_of_getElem? (i := 13) rfl), in_t7 (List.mem_of_getElem? (i := 18) rfl), by decide⟩, in_t7 (List.mem_of_getElem? (i := 17) rfl), in_s (List.mem_of_getElem? (i := 69) rfl), rfl, by decide⟩
set_option maxRecDepth 100000 in
theorem mo_X11_isNumber : mOKV m_X11_isNumber 2 11 := ⟨⟨in_t1 (List.mem_of_getElem? (i := 13) rfl), in_t6 (List.mem_of_getElem? (i := 233) rfl), by decide⟩, in_t6 (List.mem_of_getElem? (i := 232) rfl), in_s (List.mem_of_getElem? (i := 63) rfl), rfl, by decide⟩
set_option maxRecDepth 100000 in
theorem mo_X11_isCut : mOKV m_X11_isCut 3 11 := ⟨⟨in_t1 (List.mem_of_getElem? (i := 13) rfl), in_t7 (List.mem_of_getElem? (i := 227) rfl), by decide⟩, in_t7 (List.mem_of_getElem? (i := 226) rfl), in_s (List.mem_of_getElem? (i := 101) rfl), rfl, by decide⟩
set_option maxRecDepth 100000 in
theorem mo_X11_listFrom : mOKV m_X11_listFrom 6 11 := ⟨⟨in_t1 (List.mem_of_getElem? (i := 13) rfl), in_t7 (List.mem_of_getElem? (i := 62) rfl), by decide⟩, in_t7 (List.mem_of_getElem? (i := 61) rfl), in_s (List.mem_of_getElem? (i := 76) rfl), rfl, by decide⟩
set_option maxRecDepth 100000 in
theorem mo_X11_list : mOKV m_X11_list 3 11 := ⟨⟨in_t1 (List.mem_of_getElem? (i := 13) rfl), in_t7 (List.mem_of_getElem? (i := 58) rfl), by decide⟩, in_t7 (List.mem_of_getElem? (i := 57) rfl), in_s (List.mem_of_getElem? (i := 75) rfl), rfl, by decide⟩
set_option maxRecDepth 100000 in
theorem mo_X11_whole : mOKV m_X11_whole 0 11 := ⟨⟨in_t1 (List.mem_of_getElem? (i := 13) rfl), in_t7 (List.mem_of_getElem? (i := 14) rfl), by decide⟩, in_t7 (List.mem_of_getElem? (i := 13) rfl), in_s (List.mem_of_getElem? (i := 68) rfl), rfl, by decide⟩
set_option maxRecDepth 100000 in
theorem mo_X11_judged : mOKV m_X11_judged 1 11 := ⟨⟨in_t1 (List.mem_of_getElem? (i := 13) rfl), in_t7 (List.mem_of_getElem? (i := 10) rfl), by decide⟩, in_t7 (List.mem_of_getElem? (i := 9) rfl), in_s (List.mem_of_getElem? (i := 67) rfl), rfl, by decide⟩
set_option maxRecDepth 100000 in
theorem mo_X11_judge : mOKV m_X11_judge 2 11 := ⟨⟨in_t1 (List.mem_of_getElem? (i := 13) rfl), in_t6 (List.mem_of_getElem? (i := 229) rfl), by decide⟩, in_t6 (List.mem_of_getElem? (i := 227) rfl), in_t6 (List.mem_of_getElem? (i := 228) rfl), rfl, by decide⟩
set_option maxRecDepth 100000 in
theorem mo_X11_isWell : mOKV m_X11_isWell 2 11 := ⟨⟨in_t1 (List.mem_of_getElem? (i := 13) rfl), in_t7 (List.mem_of_getElem? (i := 34) rfl), by decide⟩, in_t7 (List.mem_of_getElem? (i := 33) rfl), in_s (List.mem_of_getElem? (i := 72) rfl), rfl, by decide⟩
set_option maxRecDepth 100000 in
theorem mo_X11_won : mOKV m_X11_won 3 11 := ⟨⟨in_t1 (List.mem_of_getElem? (i := 13) rfl), in_t7 (List.mem_of_getElem? (i := 30) rfl), by decide⟩, in_t7 (List.mem_of_getElem? (i := 28) rfl), in_t7 (List.mem_of_getElem? (i := 29) rfl), rfl, by decide⟩
set_option maxRecDepth 100000 in
theorem mo_X11_wins : mOKV m_X11_wins 2 11 := ⟨⟨in_t1 (List.mem_of_getElem? (i := 13) rfl), in_t7 (List.mem_of_getElem? (i := 46) rfl), by decide⟩, in_t7 (List.mem_of_getElem? (i := 45) rfl), in_s (List.mem_of_getElem? (i := 73) rfl), rfl, by decide⟩
set_option maxRecDepth 100000 in
theorem mo_X11_seats : mOKV m_X11_seats 3 11 := ⟨⟨in_t1 (List.mem_of_getElem? (i := 13) rfl), in_t7 (List.mem_of_getElem? (i := 39) rfl), by decide⟩, in_t7 (List.mem_of_getElem? (i := 37) rfl), in_t7 (List.mem_of_getElem? (i := 38) rfl), rfl, by decide⟩
set_option maxRecDepth 100000 in
theorem mo_X11_listAll : mOKV m_X11_listAll 1 11 := ⟨⟨in_t1 (List.mem_of_getElem? (i := 13) rfl), in_t7 (List.mem_of_getElem? (i := 54) rfl), by decide⟩, in_t7 (List.mem_of_getElem? (i := 53) rfl), in_s (List.mem_of_getElem? (i := 74) rfl), rfl, by decide⟩
set_option maxRecDepth 100000 in
theorem mo_X11_all : mOKV m_X11_all 2 11 := ⟨⟨in_t1 (List.mem_of_getElem? (i := 13) rfl), in_t7 (List.mem_of_getElem? (i := 50) rfl), by decide⟩, in_t7 (List.mem_of_getElem? (i := 48) rfl), in_t7 (List.mem_of_getElem? (i := 49) rfl), rfl, by decide⟩
set_option maxRecDepth 100000 in
theorem mo_X11_alone : mOKV m_X11_alone 3 11 := ⟨⟨in_t1 (List.mem_of_getElem? (i := 13) rfl), in_t7 (List.mem_of_getElem? (i := 66) rfl), by decide⟩, in_t7 (List.mem_of_getElem? (i := 64) rfl), in_t7 (List.mem_of_getElem? (i := 65) rfl), rfl, by decide⟩
set_option maxRecDepth 100000 in
theorem mo_X11_luck : mOKV m_X11_luck 4 11 := ⟨⟨in_t1 (List.mem_of_getElem? (i := 13) rfl), in_t7 (List.mem_of_getElem? (i := 70) rfl), by decide⟩, in_t7 (List.mem_of_getElem? (i := 68) rfl), in_t7 (List.mem_of_getElem? (i := 69) rfl), rfl, by decide⟩
set_option maxRecDepth 100000 in
theorem mo_X11_divisor : mOKS m_X11_divisor 2 := ⟨⟨in_t1 (List.mem_of_getElem? (i := 13) rfl), in_t7 (List.mem_of_getElem? (i := 82) rfl), by decide⟩, in_t7 (List.mem_of_getElem? (i := 81) rfl)⟩
set_option maxRecDepth 100000 in
theorem mo_X11_farOf : mOKV m_X11_farOf 3 11 := ⟨⟨in_t1 (List.mem_of_getElem? (i := 13) rfl), in_t7 (List.mem_of_getElem? (i := 78) rfl), by decide⟩, in_t7 (List.mem_of_getElem? (i := 77) rfl), in_s (List.mem_of_getElem? (i := 77) rfl), rfl, by decide⟩
set_option maxRecDepth 100000 in
theorem mo_X11_far : mOKV m_X11_far 4 11 := ⟨⟨in_t1 (List.mem_of_getElem? (i := 13) rfl), in_t7 (List.mem_of_getElem? (i := 74) rfl), by decide⟩, in_t7 (List.mem_of_getElem? (i := 72) rfl), in_t7 (List.mem_of_getElem? (i := 73) rfl), rfl, by decide⟩
set_option maxRecDepth 100000 in
theorem mo_X11_staysBy : mOKV m_X11_staysBy 4 11 := ⟨⟨in_t1 (List.mem_of_getElem? (i := 13) rfl), in_t7 (List.mem_of_getElem? (i := 94) rfl), by decide⟩, in_t7 (List.mem_of_getElem? (i := 93) rfl), in_s (List.mem_of_getElem? (i := 79) rfl), rfl, by decide⟩
set_option maxRecDepth 100000 in
theorem mo_X11_apartOf : mOKV m_X11_apartOf 2 11 := ⟨⟨in_t1 (List.mem_of_getElem? (i := 13) rfl), in_t7 (List.mem_of_getElem? (i := 90) rfl), by decide⟩, in_t7 (List.mem_of_getElem? (i := 89) rfl), in_s (List.mem_of_getElem? (i := 78) rfl), rfl, by decide⟩
set_option maxRecDepth 100000 in
theorem mo_X11_apart : mOKV m_X11_apart 3 11 := ⟨⟨in_t1 (List.mem_of_getElem? (i := 13) rfl), in_t7 (List.mem_of_getElem? (i := 86) rfl), by decide⟩, in_t7 (List.mem_of_getElem? (i := 84) rfl), in_t7 (List.mem_of_getElem? (i := 85) rfl), rfl, by decide⟩
set_option maxRecDepth 100000 in
theorem mo_X11_moved : mOKV m_X11_moved 3 11 := ⟨⟨in_t1 (List.mem_of_getElem? (i := 13) rfl), in_t7 (List.mem_of_getElem? (i := 107) rfl), by decide⟩, in_t7 (List.mem_of_getElem? (i := 106) rfl), in_s (List.mem_of_getElem? (i := 81) rfl), rfl, by decide⟩
set_option maxRecDepth 100000 in
theorem mo_X11_balance : mOKV m_X11_balance 1 11 := ⟨⟨in_t1 (List.mem_of_getElem? (i := 13) rfl), in_t7 (List.mem_of_getElem? (i := 111) rfl), by decide⟩, in_t7 (List.mem_of_getElem? (i := 110) rfl), in_s (List.mem_of_getElem? (i := 82) rfl), rfl, by decide⟩
set_option maxRecDepth 100000 in
theorem mo_X11_isSettled : mOKV m_X11_isSettled 1 11 := ⟨⟨in_t1 (List.mem_of_getElem? (i := 13) rfl), in_t7 (List.mem_of_getElem? (i := 103) rfl), by decide⟩, in_t7 (List.mem_of_getElem? (i := 102) rfl), in_s (List.mem_of_getElem? (i := 80) rfl), rfl, by decide⟩
set_option maxRecDepth 100000 in
theorem mo_X11_settled : mOKV m_X11_settled 2 11 := ⟨⟨in_t1 (List.mem_of_getElem? (i := 13) rfl), in_t7 (List.mem_of_getElem? (i := 99) rfl), by decide⟩, in_t7 (List.mem_of_getElem? (i := 97) rfl), in_t7 (List.mem_of_getElem? (i := 98) rfl), rfl, by decide⟩
set_option maxRecDepth 100000 in
theorem mo_X11_near : mOKV m_X11_near 2 11 := ⟨⟨in_t1 (List.mem_of_getElem? (i := 13) rfl), in_t7 (List.mem_of_getElem? (i := 115) rfl), by decide⟩, in_t7 (List.mem_of_getElem? (i := 113) rfl), in_t7 (List.mem_of_getElem? (i := 114) rfl), rfl, by decide⟩
set_option maxRecDepth 100000 in
theorem mo_X11_walk : mOKV m_X11_walk 4 11 := ⟨⟨in_t1 (List.mem_of_getElem? (i := 13) rfl), in_t7 (List.mem_of_getElem? (i := 119) rfl), by decide⟩, in_t7 (List.mem_of_getElem? (i := 117) rfl), in_t7 (List.mem_of_getElem? (i := 118) rfl), rfl, by decide⟩
set_option maxRecDepth 100000 in
theorem mo_X11_doingNow : mOKV m_X11_doingNow 0 11 := ⟨⟨in_t1 (List.mem_of_getElem? (i := 13) rfl), in_t7 (List.mem_of_getElem? (i := 141) rfl), by decide⟩, in_t7 (List.mem_of_getElem? (i := 140) rfl), in_s (List.mem_of_getElem? (i := 85) rfl), rfl, by decide⟩
set_option maxRecDepth 100000 in
theorem mo_X11_firstNow : mOKV m_X11_firstNow 0 11 := ⟨⟨in_t1 (List.mem_of_getElem? (i := 13) rfl), in_t7 (List.mem_of_getElem? (i := 215) rfl), by decide⟩, in_t7 (List.mem_of_getElem? (i := 214) rfl), in_s (List.mem_of_getElem? (i := 99) rfl), rfl, by decide⟩
set_option maxRecDepth 100000 in
theorem mo_X11_startGame : mOKV m_X11_startGame 3 11 := ⟨⟨in_t1 (List.mem_of_getElem? (i := 13) rfl), in_t7 (List.mem_of_getElem? (i := 133) rfl), by decide⟩, in_t7 (List.mem_of_getElem? (i := 132) rfl), in_s (List.mem_of_getElem? (i := 83) rfl), rfl, by decide⟩
set_option maxRecDepth 100000 in
theorem mo_X11_startRound : mOKV m_X11_startRound 0 11 := ⟨⟨in_t1 (List.mem_of_getElem? (i := 13) rfl), in_t7 (List.mem_of_getElem? (i := 137) rfl), by decide⟩, in_t7 (List.mem_of_getElem? (i := 136) rfl), in_s (List.mem_of_getElem? (i := 84) rfl), rfl, by decide⟩
set_option maxRecDepth 100000 in
theorem mo_X11_keep : mOKV m_X11_keep 1 11 := ⟨⟨in_t1 (List.mem_of_getElem? (i := 13) rfl), in_t7 (List.mem_of_getElem? (i := 195) rfl), by decide⟩, in_t7 (List.mem_of_getElem? (i := 194) rfl), in_s (List.mem_of_getElem? (i := 95) rfl), rfl, by decide⟩
set_option maxRecDepth 100000 in
theorem mo_X11_keepAll : mOKV m_X11_keepAll 1 11 := ⟨⟨in_t1 (List.mem_of_getElem? (i := 13) rfl), in_t7 (List.mem_of_getElem? (i := 203) rfl), by decide⟩, in_t7 (List.mem_of_getElem? (i := 202) rfl), in_s (List.mem_of_getElem? (i := 97) rfl), rfl, by decide⟩
set_option maxRecDepth 100000 in
theorem mo_X11_isAlone : mOKV m_X11_isAlone 0 11 := ⟨⟨in_t1 (List.mem_of_getElem? (i := 13) rfl), in_t7 (List.mem_of_getElem? (i := 199) rfl), by decide⟩, in_t7 (List.mem_of_getElem? (i := 198) rfl), in_s (List.mem_of_getElem? (i := 96) rfl), rfl, by decide⟩
set_option maxRecDepth 100000 in
theorem mo_X11_isLast : mOKV m_X11_isLast 1 11 := ⟨⟨in_t1 (List.mem_of_getElem? (i := 13) rfl), in_t8 (List.mem_of_getElem? (i := 7) rfl), by decide⟩, in_t8 (List.mem_of_getElem? (i := 6) rfl), in_s (List.mem_of_getElem? (i := 106) rfl), rfl, by decide⟩
set_option maxRecDepth 100000 in
theorem mo_X11_mayMove : mOKV m_X11_mayMove 1 11 := ⟨⟨in_t1 (List.mem_of_getElem? (i := 13) rfl), in_t7 (List.mem_of_getElem? (i := 223) rfl), by decide⟩, in_t7 (List.mem_of_getElem? (i := 222) rfl), in_s (List.mem_of_getElem? (i := 100) rfl), rfl, by decide⟩
set_option maxRecDepth 100000 in
theorem mo_X11_makeMove : mOKV m_X11_makeMove 2 11 := ⟨⟨in_t1 (List.mem_of_getElem? (i := 13) rfl), in_t7 (List.mem_of_getElem? (i := 191) rfl), by decide⟩, in_t7 (List.mem_of_getElem? (i := 190) rfl), in_s (List.mem_of_getElem? (i := 94) rfl), rfl, by decide⟩
set_option maxRecDepth 100000 in
theorem mo_X11_half : mOKV m_X11_half 2 11 := ⟨⟨in_t1 (List.mem_of_getElem? (i := 13) rfl), in_t7 (List.mem_of_getElem? (i := 235) rfl), by decide⟩, in_t7 (List.mem_of_getElem? (i := 234) rfl), in_s (List.mem_of_getElem? (i := 103) rfl), rfl, by decide⟩
set_option maxRecDepth 100000 in
theorem mo_X11_halfOf : mOKV m_X11_halfOf 3 11 := ⟨⟨in_t1 (List.mem_of_getElem? (i := 13) rfl), in_t7 (List.mem_of_getElem? (i := 239) rfl), by decide⟩, in_t7 (List.mem_of_getElem? (i := 238) rfl), in_s (List.mem_of_getElem? (i := 104) rfl), rfl, by decide⟩
set_option maxRecDepth 100000 in
theorem mo_X11_hangs : mOKS m_X11_hangs 1 := ⟨⟨in_t1 (List.mem_of_getElem? (i := 13) rfl), in_t7 (List.mem_of_getElem? (i := 156) rfl), by decide⟩, in_t7 (List.mem_of_getElem? (i := 155) rfl)⟩
set_option maxRecDepth 100000 in
theorem mo_X11_isHalves : mOKV m_X11_isHalves 3 11 := ⟨⟨in_t1 (List.mem_of_getElem? (i := 13) rfl), in_t7 (List.mem_of_getElem? (i := 231) rfl), by decide⟩, in_t7 (List.mem_of_getElem? (i := 230) rfl), in_s (List.mem_of_getElem? (i := 102) rfl), rfl, by decide⟩
set_option maxRecDepth 100000 in
theorem mo_X11_canPair : mOKV m_X11_canPair 2 11 := ⟨⟨in_t1 (List.mem_of_getElem? (i := 13) rfl), in_t7 (List.mem_of_getElem? (i := 160) rfl), by decide⟩, in_t7 (List.mem_of_getElem? (i := 159) rfl), in_s (List.mem_of_getElem? (i := 89) rfl), rfl, by decide⟩
set_option maxRecDepth 100000 in
theorem mo_X11_joins : mOKV m_X11_joins 1 11 := ⟨⟨in_t1 (List.mem_of_getElem? (i := 13) rfl), in_t8 (List.mem_of_getElem? (i := 3) rfl), by decide⟩, in_t8 (List.mem_of_getElem? (i := 2) rfl), in_s (List.mem_of_getElem? (i := 105) rfl), rfl, by decide⟩
set_option maxRecDepth 100000 in
theorem mo_X11_seekHalves : mOKV m_X11_seekHalves 5 11 := ⟨⟨in_t1 (List.mem_of_getElem? (i := 13) rfl), in_t7 (List.mem_of_getElem? (i := 149) rfl), by decide⟩, in_t7 (List.mem_of_getElem? (i := 148) rfl), in_s (List.mem_of_getElem? (i := 87) rfl), rfl, by decide⟩
set_option maxRecDepth 100000 in
theorem mo_X11_weighHalves : mOKV m_X11_weighHalves 2 11 := ⟨⟨in_t1 (List.mem_of_getElem? (i := 13) rfl), in_t7 (List.mem_of_getElem? (i := 153) rfl), by decide⟩, in_t7 (List.mem_of_getElem? (i := 152) rfl), in_s (List.mem_of_getElem? (i := 88) rfl), rfl, by decide⟩
set_option maxRecDepth 100000 in
theorem mo_X11_pairValue : mOKV m_X11_pairValue 3 11 := ⟨⟨in_t1 (List.mem_of_getElem? (i := 13) rfl), in_t7 (List.mem_of_getElem? (i := 168) rfl), by decide⟩, in_t7 (List.mem_of_getElem? (i := 167) rfl), in_s (List.mem_of_getElem? (i := 90) rfl), rfl, by decide⟩
set_option maxRecDepth 100000 in
theorem mo_X11_better : mOKS m_X11_better 3 := ⟨⟨in_t1 (List.mem_of_getElem? (i := 13) rfl), in_t7 (List.mem_of_getElem? (i := 175) rfl), by decide⟩, in_t7 (List.mem_of_getElem? (i := 174) rfl)⟩
set_option maxRecDepth 100000 in
theorem mo_X11_hasHalves : mOKV m_X11_hasHalves 2 11 := ⟨⟨in_t1 (List.mem_of_getElem? (i := 13) rfl), in_t7 (List.mem_of_getElem? (i := 145) rfl), by decide⟩, in_t7 (List.mem_of_getElem? (i := 144) rfl), in_s (List.mem_of_getElem? (i := 86) rfl), rfl, by decide⟩
set_option maxRecDepth 100000 in
theorem mo_X11_worth : mOKV m_X11_worth 1 11 := ⟨⟨in_t1 (List.mem_of_getElem? (i := 13) rfl), in_t7 (List.mem_of_getElem? (i := 172) rfl), by decide⟩, in_t7 (List.mem_of_getElem? (i := 171) rfl), in_s (List.mem_of_getElem? (i := 91) rfl), rfl, by decide⟩
set_option maxRecDepth 100000 in
theorem mo_X11_great : mOKV m_X11_great 1 11 := ⟨⟨in_t1 (List.mem_of_getElem? (i := 13) rfl), in_t8 (List.mem_of_getElem? (i := 30) rfl), by decide⟩, in_t8 (List.mem_of_getElem? (i := 29) rfl), in_s (List.mem_of_getElem? (i := 109) rfl), rfl, by decide⟩
set_option maxRecDepth 100000 in
theorem mo_X11_cutWorth : mOKV m_X11_cutWorth 3 11 := ⟨⟨in_t1 (List.mem_of_getElem? (i := 13) rfl), in_t8 (List.mem_of_getElem? (i := 58) rfl), by decide⟩, in_t8 (List.mem_of_getElem? (i := 57) rfl), in_s (List.mem_of_getElem? (i := 116) rfl), rfl, by decide⟩
set_option maxRecDepth 100000 in
theorem mo_X11_begin : mOKV m_X11_begin 1 11 := ⟨⟨in_t1 (List.mem_of_getElem? (i := 13) rfl), in_t8 (List.mem_of_getElem? (i := 22) rfl), by decide⟩, in_t8 (List.mem_of_getElem? (i := 21) rfl), in_s (List.mem_of_getElem? (i := 107) rfl), rfl, by decide⟩
set_option maxRecDepth 100000 in
theorem mo_X11_roundOf : mOKV m_X11_roundOf 1 11 := ⟨⟨in_t1 (List.mem_of_getElem? (i := 13) rfl), in_t8 (List.mem_of_getElem? (i := 46) rfl), by decide⟩, in_t8 (List.mem_of_getElem? (i := 45) rfl), in_s (List.mem_of_getElem? (i := 113) rfl), rfl, by decide⟩
set_option maxRecDepth 100000 in
theorem mo_X11_comes : mOKV m_X11_comes 2 11 := ⟨⟨in_t1 (List.mem_of_getElem? (i := 13) rfl), in_t8 (List.mem_of_getElem? (i := 38) rfl), by decide⟩, in_t8 (List.mem_of_getElem? (i := 37) rfl), in_s (List.mem_of_getElem? (i := 111) rfl), rfl, by decide⟩
set_option maxRecDepth 100000 in
theorem mo_X11_comesOf : mOKV m_X11_comesOf 2 11 := ⟨⟨in_t1 (List.mem_of_getElem? (i := 13) rfl), in_t8 (List.mem_of_getElem? (i := 42) rfl), by decide⟩, in_t8 (List.mem_of_getElem? (i := 41) rfl), in_s (List.mem_of_getElem? (i := 112) rfl), rfl, by decide⟩
set_option maxRecDepth 100000 in
theorem mo_X11_halvesValue : mOKV m_X11_halvesValue 3 11 := ⟨⟨in_t1 (List.mem_of_getElem? (i := 13) rfl), in_t8 (List.mem_of_getElem? (i := 50) rfl), by decide⟩, in_t8 (List.mem_of_getElem? (i := 49) rfl), in_s (List.mem_of_getElem? (i := 114) rfl), rfl, by decide⟩
set_option maxRecDepth 100000 in
theorem mo_X11_keptValue : mOKV m_X11_keptValue 4 11 := ⟨⟨in_t1 (List.mem_of_getElem? (i := 13) rfl), in_t8 (List.mem_of_getElem? (i := 34) rfl), by decide⟩, in_t8 (List.mem_of_getElem? (i := 33) rfl), in_s (List.mem_of_getElem? (i := 110) rfl), rfl, by decide⟩
set_option maxRecDepth 100000 in
theorem mo_X11_keepValue : mOKV m_X11_keepValue 4 11 := ⟨⟨in_t1 (List.mem_of_getElem? (i := 13) rfl), in_t8 (List.mem_of_getElem? (i := 54) rfl), by decide⟩, in_t8 (List.mem_of_getElem? (i := 53) rfl), in_s (List.mem_of_getElem? (i := 115) rfl), rfl, by decide⟩
set_option maxRecDepth 100000 in
theorem mo_X11_keptWorth : mOKV m_X11_keptWorth 0 11 := ⟨⟨in_t1 (List.mem_of_getElem? (i := 13) rfl), in_t8 (List.mem_of_getElem? (i := 85) rfl), by decide⟩, in_t8 (List.mem_of_getElem? (i := 84) rfl), in_s (List.mem_of_getElem? (i := 121) rfl), rfl, by decide⟩
set_option maxRecDepth 100000 in
theorem mo_X11_mover : mOKV m_X11_mover 0 11 := ⟨⟨in_t1 (List.mem_of_getElem? (i := 13) rfl), in_t7 (List.mem_of_getElem? (i := 211) rfl), by decide⟩, in_t7 (List.mem_of_getElem? (i := 210) rfl), in_s (List.mem_of_getElem? (i := 98) rfl), rfl, by decide⟩
set_option maxRecDepth 100000 in
theorem mo_X11_opposite : mOKS m_X11_opposite 3 := ⟨⟨in_t1 (List.mem_of_getElem? (i := 13) rfl), in_t8 (List.mem_of_getElem? (i := 69) rfl), by decide⟩, in_t8 (List.mem_of_getElem? (i := 68) rfl)⟩
set_option maxRecDepth 100000 in
theorem mo_X11_seekBest : mOKV m_X11_seekBest 0 11 := ⟨⟨in_t1 (List.mem_of_getElem? (i := 13) rfl), in_t8 (List.mem_of_getElem? (i := 26) rfl), by decide⟩, in_t8 (List.mem_of_getElem? (i := 25) rfl), in_s (List.mem_of_getElem? (i := 108) rfl), rfl, by decide⟩
set_option maxRecDepth 100000 in
theorem mo_X11_offer : mOKV m_X11_offer 3 11 := ⟨⟨in_t1 (List.mem_of_getElem? (i := 13) rfl), in_t8 (List.mem_of_getElem? (i := 62) rfl), by decide⟩, in_t8 (List.mem_of_getElem? (i := 61) rfl), in_s (List.mem_of_getElem? (i := 117) rfl), rfl, by decide⟩
set_option maxRecDepth 100000 in
theorem mo_X11_seekCut : mOKV m_X11_seekCut 1 11 := ⟨⟨in_t1 (List.mem_of_getElem? (i := 13) rfl), in_t8 (List.mem_of_getElem? (i := 73) rfl), by decide⟩, in_t8 (List.mem_of_getElem? (i := 72) rfl), in_s (List.mem_of_getElem? (i := 119) rfl), rfl, by decide⟩
set_option maxRecDepth 100000 in
theorem mo_X11_seekPair : mOKV m_X11_seekPair 1 11 := ⟨⟨in_t1 (List.mem_of_getElem? (i := 13) rfl), in_t8 (List.mem_of_getElem? (i := 66) rfl), by decide⟩, in_t8 (List.mem_of_getElem? (i := 65) rfl), in_s (List.mem_of_getElem? (i := 118) rfl), rfl, by decide⟩
set_option maxRecDepth 100000 in
theorem mo_X11_valueNow : mOKV m_X11_valueNow 0 11 := ⟨⟨in_t1 (List.mem_of_getElem? (i := 13) rfl), in_t8 (List.mem_of_getElem? (i := 81) rfl), by decide⟩, in_t8 (List.mem_of_getElem? (i := 80) rfl), in_s (List.mem_of_getElem? (i := 120) rfl), rfl, by decide⟩
set_option maxRecDepth 100000 in
theorem mo_X11_isGame : mOKV m_X11_isGame 1 11 := ⟨⟨in_t1 (List.mem_of_getElem? (i := 13) rfl), in_t7 (List.mem_of_getElem? (i := 183) rfl), by decide⟩, in_t7 (List.mem_of_getElem? (i := 182) rfl), in_s (List.mem_of_getElem? (i := 92) rfl), rfl, by decide⟩
set_option maxRecDepth 100000 in
theorem mo_X11_goThrough : mOKV m_X11_goThrough 1 11 := ⟨⟨in_t1 (List.mem_of_getElem? (i := 13) rfl), in_t7 (List.mem_of_getElem? (i := 187) rfl), by decide⟩, in_t7 (List.mem_of_getElem? (i := 186) rfl), in_s (List.mem_of_getElem? (i := 93) rfl), rfl, by decide⟩
set_option maxRecDepth 100000 in
theorem mo_X11_vote : mOKV m_X11_vote 4 11 := ⟨⟨in_t1 (List.mem_of_getElem? (i := 13) rfl), in_t7 (List.mem_of_getElem? (i := 125) rfl), by decide⟩, in_t7 (List.mem_of_getElem? (i := 123) rfl), in_t7 (List.mem_of_getElem? (i := 124) rfl), rfl, by decide⟩
set_option maxRecDepth 100000 in
theorem mo_X11_game : mOKV m_X11_game 2 11 := ⟨⟨in_t1 (List.mem_of_getElem? (i := 13) rfl), in_t7 (List.mem_of_getElem? (i := 129) rfl), by decide⟩, in_t7 (List.mem_of_getElem? (i := 127) rfl), in_t7 (List.mem_of_getElem? (i := 128) rfl), rfl, by decide⟩
set_option maxRecDepth 100000 in
theorem mo_X11_phase : mOKV m_X11_phase 1 11 := ⟨⟨in_t1 (List.mem_of_getElem? (i := 13) rfl), in_t7 (List.mem_of_getElem? (i := 179) rfl), by decide⟩, in_t7 (List.mem_of_getElem? (i := 177) rfl), in_t7 (List.mem_of_getElem? (i := 178) rfl), rfl, by decide⟩
set_option maxRecDepth 100000 in
theorem mo_X11_turn : mOKV m_X11_turn 1 11 := ⟨⟨in_t1 (List.mem_of_getElem? (i := 13) rfl), in_t7 (List.mem_of_getElem? (i := 207) rfl), by decide⟩, in_t7 (List.mem_of_getElem? (i := 205) rfl), in_t7 (List.mem_of_getElem? (i := 206) rfl), rfl, by decide⟩
set_option maxRecDepth 100000 in
theorem mo_X11_move : mOKV m_X11_move 2 11 := ⟨⟨in_t1 (List.mem_of_getElem? (i := 13) rfl), in_t7 (List.mem_of_getElem? (i := 219) rfl), by decide⟩, in_t7 (List.mem_of_getElem? (i := 217) rfl), in_t7 (List.mem_of_getElem? (i := 218) rfl), rfl, by decide⟩
set_option maxRecDepth 100000 in
theorem mo_X11_undo : mOKV m_X11_undo 1 11 := ⟨⟨in_t1 (List.mem_of_getElem? (i := 13) rfl), in_t8 (List.mem_of_getElem? (i := 11) rfl), by decide⟩, in_t8 (List.mem_of_getElem? (i := 9) rfl), in_t8 (List.mem_of_getElem? (i := 10) rfl), rfl, by decide⟩
set_option maxRecDepth 100000 in
theorem mo_X11_isGoal : mOKS m_X11_isGoal 1 := ⟨⟨in_t1 (List.mem_of_getElem? (i := 13) rfl), in_t8 (List.mem_of_getElem? (i := 18) rfl), by decide⟩, in_t8 (List.mem_of_getElem? (i := 17) rfl)⟩
set_option maxRecDepth 100000 in
theorem mo_X11_best : mOKV m_X11_best 2 11 := ⟨⟨in_t1 (List.mem_of_getElem? (i := 13) rfl), in_t8 (List.mem_of_getElem? (i := 15) rfl), by decide⟩, in_t8 (List.mem_of_getElem? (i := 13) rfl), in_t8 (List.mem_of_getElem? (i := 14) rfl), rfl, by decide⟩
set_option maxRecDepth 100000 in
theorem mo_X11_value : mOKV m_X11_value 2 11 := ⟨⟨in_t1 (List.mem_of_getElem? (i := 13) rfl), in_t8 (List.mem_of_getElem? (i := 77) rfl), by decide⟩, in_t8 (List.mem_of_getElem? (i := 75) rfl), in_t8 (List.mem_of_getElem? (i := 76) rfl), rfl, by decide⟩
set_option maxRecDepth 100000 in
theorem mo_X11_kept : mOKV m_X11_kept 2 11 := ⟨⟨in_t1 (List.mem_of_getElem? (i := 13) rfl), in_t8 (List.mem_of_getElem? (i := 89) rfl), by decide⟩, in_t8 (List.mem_of_getElem? (i := 87) rfl), in_t8 (List.mem_of_getElem? (i := 88) rfl), rfl, by decide⟩
set_option maxRecDepth 100000 in
theorem mo_X11_isBoth : mOKV m_X11_isBoth 2 11 := ⟨⟨in_t1 (List.mem_of_getElem? (i := 13) rfl), in_t8 (List.mem_of_getElem? (i := 97) rfl), by decide⟩, in_t8 (List.mem_of_getElem? (i := 96) rfl), in_s (List.mem_of_getElem? (i := 122) rfl), rfl, by decide⟩
set_option maxRecDepth 100000 in
theorem mo_X11_sureOf : mOKV m_X11_sureOf 4 11 := ⟨⟨in_t1 (List.mem_of_getElem? (i := 13) rfl), in_t8 (List.mem_of_getElem? (i := 101) rfl), by decide⟩, in_t8 (List.mem_of_getElem? (i := 100) rfl), in_s (List.mem_of_getElem? (i := 123) rfl), rfl, by decide⟩
set_option maxRecDepth 100000 in
theorem mo_X11_sure : mOKV m_X11_sure 3 11 := ⟨⟨in_t1 (List.mem_of_getElem? (i := 13) rfl), in_t8 (List.mem_of_getElem? (i := 93) rfl), by decide⟩, in_t8 (List.mem_of_getElem? (i := 91) rfl), in_t8 (List.mem_of_getElem? (i := 92) rfl), rfl, by decide⟩
set_option maxRecDepth 100000 in
theorem mo_X11_keptCut : mOKV m_X11_keptCut 0 11 := ⟨⟨in_t1 (List.mem_of_getElem? (i := 13) rfl), in_t8 (List.mem_of_getElem? (i := 113) rfl), by decide⟩, in_t8 (List.mem_of_getElem? (i := 112) rfl), in_s (List.mem_of_getElem? (i := 125) rfl), rfl, by decide⟩
set_option maxRecDepth 100000 in
theorem mo_X11_endedOf : mOKV m_X11_endedOf 2 11 := ⟨⟨in_t1 (List.mem_of_getElem? (i := 13) rfl), in_t8 (List.mem_of_getElem? (i := 109) rfl), by decide⟩, in_t8 (List.mem_of_getElem? (i := 108) rfl), in_s (List.mem_of_getElem? (i := 124) rfl), rfl, by decide⟩
set_option maxRecDepth 100000 in
theorem mo_X11_ended : mOKV m_X11_ended 2 11 := ⟨⟨in_t1 (List.mem_of_getElem? (i := 13) rfl), in_t8 (List.mem_of_getElem? (i := 105) rfl), by decide⟩, in_t8 (List.mem_of_getElem? (i := 103) rfl), in_t8 (List.mem_of_getElem? (i := 104) rfl), rfl, by decide⟩
set_option maxRecDepth 100000 in
theorem mo_X11_first : mOKV m_X11_first 2 11 := ⟨⟨in_t1 (List.mem_of_getElem? (i := 13) rfl), in_t8 (List.mem_of_getElem? (i := 117) rfl), by decide⟩, in_t8 (List.mem_of_getElem? (i := 115) rfl), in_t8 (List.mem_of_getElem? (i := 116) rfl), rfl, by decide⟩
set_option maxRecDepth 100000 in
theorem mo_X11_findFar : mOKV m_X11_findFar 3 11 := ⟨⟨in_t1 (List.mem_of_getElem? (i := 13) rfl), in_t8 (List.mem_of_getElem? (i := 125) rfl), by decide⟩, in_t8 (List.mem_of_getElem? (i := 124) rfl), in_s (List.mem_of_getElem? (i := 126) rfl), rfl, by decide⟩
set_option maxRecDepth 100000 in
theorem mo_X11_isFarther : mOKV m_X11_isFarther 2 11 := ⟨⟨in_t1 (List.mem_of_getElem? (i := 13) rfl), in_t8 (List.mem_of_getElem? (i := 129) rfl), by decide⟩, in_t8 (List.mem_of_getElem? (i := 128) rfl), in_s (List.mem_of_getElem? (i := 127) rfl), rfl, by decide⟩
set_option maxRecDepth 100000 in
theorem mo_X11_worst : mOKV m_X11_worst 1 11 := ⟨⟨in_t1 (List.mem_of_getElem? (i := 13) rfl), in_t8 (List.mem_of_getElem? (i := 121) rfl), by decide⟩, in_t8 (List.mem_of_getElem? (i := 119) rfl), in_t8 (List.mem_of_getElem? (i := 120) rfl), rfl, by decide⟩
set_option maxRecDepth 100000 in
theorem mo_X11_worse : mOKV m_X11_worse 2 11 := ⟨⟨in_t1 (List.mem_of_getElem? (i := 13) rfl), in_t8 (List.mem_of_getElem? (i := 133) rfl), by decide⟩, in_t8 (List.mem_of_getElem? (i := 131) rfl), in_t8 (List.mem_of_getElem? (i := 132) rfl), rfl, by decide⟩
set_option maxRecDepth 100000 in
theorem mo_X11_count : mOKV m_X11_count 1 11 := ⟨⟨in_t1 (List.mem_of_getElem? (i := 13) rfl), in_t8 (List.mem_of_getElem? (i := 137) rfl), by decide⟩, in_t8 (List.mem_of_getElem? (i := 135) rfl), in_t8 (List.mem_of_getElem? (i := 136) rfl), rfl, by decide⟩
set_option maxRecDepth 100000 in
theorem mo_X3_worth : mOKV m_X3_worth 2 3 := ⟨⟨in_t1 (List.mem_of_getElem? (i := 5) rfl), in_t4 (List.mem_of_getElem? (i := 80) rfl), by decide⟩, in_t4 (List.mem_of_getElem? (i := 78) rfl), in_t4 (List.mem_of_getElem? (i := 79) rfl), rfl, by decide⟩
set_option maxRecDepth 100000 in
theorem mo_X10_parish : mOKV m_X10_parish 3 10 := ⟨⟨in_t1 (List.mem_of_getElem? (i := 1) rfl), in_t5 (List.mem_of_getElem? (i := 136) rfl), by decide⟩, in_t5 (List.mem_of_getElem? (i := 134) rfl), in_t5 (List.mem_of_getElem? (i := 135) rfl), rfl, by decide⟩
