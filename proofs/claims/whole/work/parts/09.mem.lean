theorem in_1 {w : Cond} (h : w ∈ tables_1_1) : w ∈ lw_tbl := List.mem_append_right _ (List.mem_append_left _ h)
theorem in_2 {w : Cond} (h : w ∈ tables_1_2) : w ∈ lw_tbl := List.mem_append_right _ (List.mem_append_right _ (List.mem_append_left _ h))
theorem in_3 {w : Cond} (h : w ∈ tables_1_3) : w ∈ lw_tbl := List.mem_append_right _ (List.mem_append_right _ (List.mem_append_right _ (List.mem_append_left _ h)))
theorem in_4 {w : Cond} (h : w ∈ tables_1_4) : w ∈ lw_tbl := List.mem_append_right _ (List.mem_append_right _ (List.mem_append_right _ (List.mem_append_right _ (List.mem_append_left _ h))))
theorem in_5 {w : Cond} (h : w ∈ tables_1_5) : w ∈ lw_tbl := List.mem_append_right _ (List.mem_append_right _ (List.mem_append_right _ (List.mem_append_right _ (List.mem_append_right _ h))))
theorem in_p {w : Cond} (h : w ∈ k2_sels lw_privs) : w ∈ lw_tbl := List.mem_append_left _ h
theorem in_L : Cond.initialized RL ∈ gTbl := gTbl_of (in_1 (List.mem_of_getElem? (i := 0) (by decide +kernel))) rfl
theorem in_X5 : Cond.initialized RX5 ∈ gTbl := gTbl_of (in_1 (List.mem_of_getElem? (i := 1) (by decide +kernel))) rfl
theorem in_X3 : Cond.initialized RX3 ∈ gTbl := gTbl_of (in_1 (List.mem_of_getElem? (i := 2) (by decide +kernel))) rfl
theorem in_X4 : Cond.initialized RX4 ∈ gTbl := gTbl_of (in_1 (List.mem_of_getElem? (i := 3) (by decide +kernel))) rfl
theorem in_X1 : Cond.initialized RX1 ∈ gTbl := gTbl_of (in_1 (List.mem_of_getElem? (i := 4) (by decide +kernel))) rfl
theorem in_X2 : Cond.initialized RX2 ∈ gTbl := gTbl_of (in_1 (List.mem_of_getElem? (i := 5) (by decide +kernel))) rfl
theorem in_X6 : Cond.initialized RX6 ∈ gTbl := gTbl_of (in_1 (List.mem_of_getElem? (i := 6) (by decide +kernel))) rfl
theorem in_J10 : Cond.initialized RJ10 ∈ gTbl := gTbl_of (in_1 (List.mem_of_getElem? (i := 7) (by decide +kernel))) rfl
theorem in_J9 : Cond.initialized RJ9 ∈ gTbl := gTbl_of (in_1 (List.mem_of_getElem? (i := 8) (by decide +kernel))) rfl
theorem in_X0 : Cond.initialized RX0 ∈ gTbl := gTbl_of (in_1 (List.mem_of_getElem? (i := 9) (by decide +kernel))) rfl
theorem in_J6 : Cond.initialized RJ6 ∈ gTbl := gTbl_of (in_1 (List.mem_of_getElem? (i := 10) (by decide +kernel))) rfl
theorem cl_L_7 : Cond.classLink RL 7 RX5 ∈ gTbl := gTbl_of (in_1 (List.mem_of_getElem? (i := 11) (by decide +kernel))) rfl
theorem ia_X5 : Cond.instantiable RX5 8 ∈ gTbl := gTbl_of (in_1 (List.mem_of_getElem? (i := 12) (by decide +kernel))) rfl
theorem ml_L_9 : Cond.methodLink RL 9 yX5_init ∈ gTbl := gTbl_of (in_1 (List.mem_of_getElem? (i := 13) (by decide +kernel))) rfl
theorem im_X5_init : Cond.instanceMethod yX5_init ∈ gTbl := gTbl_of (in_1 (List.mem_of_getElem? (i := 14) (by decide +kernel))) rfl
theorem cd_X5_init : Cond.code yX5_init cX5_init 1 none ∈ gTbl := gTbl_of (in_1 (List.mem_of_getElem? (i := 15) rfl)) rfl
theorem ml_X5_1 : Cond.methodLink RX5 1 objectInit ∈ gTbl := gTbl_of (in_1 (List.mem_of_getElem? (i := 16) (by decide +kernel))) rfl
theorem im_objectInit : Cond.instanceMethod objectInit ∈ gTbl := gTbl_of (in_1 (List.mem_of_getElem? (i := 17) (by decide +kernel))) rfl
theorem cd_objectInit : Cond.code objectInit ⟨#[0xb1]⟩ 1 none ∈ gTbl := gTbl_of (in_1 (List.mem_of_getElem? (i := 18) rfl)) rfl
theorem cl_X5_7 : Cond.classLink RX5 7 RX3 ∈ gTbl := gTbl_of (in_1 (List.mem_of_getElem? (i := 19) (by decide +kernel))) rfl
theorem ia_X3 : Cond.instantiable RX3 10 ∈ gTbl := gTbl_of (in_1 (List.mem_of_getElem? (i := 20) (by decide +kernel))) rfl
theorem ml_X5_9 : Cond.methodLink RX5 9 yX3_init ∈ gTbl := gTbl_of (in_1 (List.mem_of_getElem? (i := 21) (by decide +kernel))) rfl
theorem im_X3_init : Cond.instanceMethod yX3_init ∈ gTbl := gTbl_of (in_1 (List.mem_of_getElem? (i := 22) (by decide +kernel))) rfl
theorem cd_X3_init : Cond.code yX3_init cX3_init 1 none ∈ gTbl := gTbl_of (in_1 (List.mem_of_getElem? (i := 23) rfl)) rfl
theorem ml_X3_3 : Cond.methodLink RX3 3 objectInit ∈ gTbl := gTbl_of (in_1 (List.mem_of_getElem? (i := 24) (by decide +kernel))) rfl
theorem fl_X3_9 : Cond.fieldLink RX3 9 "Percolated$Parish" "kind" "[I" ∈ gTbl := gTbl_of (in_1 (List.mem_of_getElem? (i := 25) (by decide +kernel))) rfl
theorem fl_X3_15 : Cond.fieldLink RX3 15 "Percolated$Parish" "figure" "[I" ∈ gTbl := gTbl_of (in_1 (List.mem_of_getElem? (i := 26) (by decide +kernel))) rfl
theorem fl_X3_18 : Cond.fieldLink RX3 18 "Percolated$Parish" "held" "[I" ∈ gTbl := gTbl_of (in_1 (List.mem_of_getElem? (i := 27) (by decide +kernel))) rfl
theorem fl_X3_21 : Cond.fieldLink RX3 21 "Percolated$Parish" "next" "[I" ∈ gTbl := gTbl_of (in_1 (List.mem_of_getElem? (i := 28) (by decide +kernel))) rfl
theorem fl_X3_30 : Cond.fieldLink RX3 30 "Percolated$Parish" "built" "I" ∈ gTbl := gTbl_of (in_1 (List.mem_of_getElem? (i := 29) (by decide +kernel))) rfl
theorem fl_X3_34 : Cond.fieldLink RX3 34 "Percolated$Parish" "stopped" "I" ∈ gTbl := gTbl_of (in_1 (List.mem_of_getElem? (i := 30) (by decide +kernel))) rfl
theorem fl_X3_37 : Cond.fieldLink RX3 37 "Percolated$Parish" "wet" "I" ∈ gTbl := gTbl_of (in_1 (List.mem_of_getElem? (i := 31) (by decide +kernel))) rfl
theorem fl_X3_40 : Cond.fieldLink RX3 40 "Percolated$Parish" "cup" "I" ∈ gTbl := gTbl_of (in_1 (List.mem_of_getElem? (i := 32) (by decide +kernel))) rfl
theorem fl_X3_43 : Cond.fieldLink RX3 43 "Percolated$Parish" "hour" "I" ∈ gTbl := gTbl_of (in_1 (List.mem_of_getElem? (i := 33) (by decide +kernel))) rfl
theorem fl_X3_56 : Cond.fieldLink RX3 56 "Percolated$Parish" "dripped" "Z" ∈ gTbl := gTbl_of (in_1 (List.mem_of_getElem? (i := 34) (by decide +kernel))) rfl
theorem ac_int : Cond.arrayClass .int ∈ gTbl := gTbl_of (in_1 (List.mem_of_getElem? (i := 56) (by decide +kernel))) rfl
theorem cl_X5_22 : Cond.classLink RX5 22 RX4 ∈ gTbl := gTbl_of (in_1 (List.mem_of_getElem? (i := 57) (by decide +kernel))) rfl
theorem ia_X4 : Cond.instantiable RX4 3 ∈ gTbl := gTbl_of (in_1 (List.mem_of_getElem? (i := 58) (by decide +kernel))) rfl
theorem ml_X5_24 : Cond.methodLink RX5 24 yX4_init ∈ gTbl := gTbl_of (in_1 (List.mem_of_getElem? (i := 59) (by decide +kernel))) rfl
theorem im_X4_init : Cond.instanceMethod yX4_init ∈ gTbl := gTbl_of (in_1 (List.mem_of_getElem? (i := 60) (by decide +kernel))) rfl
theorem cd_X4_init : Cond.code yX4_init cX4_init 2 none ∈ gTbl := gTbl_of (in_1 (List.mem_of_getElem? (i := 61) rfl)) rfl
theorem ml_X4_3 : Cond.methodLink RX4 3 objectInit ∈ gTbl := gTbl_of (in_1 (List.mem_of_getElem? (i := 62) (by decide +kernel))) rfl
theorem cl_X4_9 : Cond.classLink RX4 9 RX3 ∈ gTbl := gTbl_of (in_1 (List.mem_of_getElem? (i := 63) (by decide +kernel))) rfl
theorem ml_X4_17 : Cond.methodLink RX4 17 yX3_init ∈ gTbl := gTbl_of (in_1 (List.mem_of_getElem? (i := 65) (by decide +kernel))) rfl
theorem fl_X4_11 : Cond.fieldLink RX4 11 "Percolated$Past" "kept" "[LPercolated$Parish;" ∈ gTbl := gTbl_of (in_1 (List.mem_of_getElem? (i := 66) (by decide +kernel))) rfl
theorem fl_X4_22 : Cond.fieldLink RX4 22 "Percolated$Past" "latest" "I" ∈ gTbl := gTbl_of (in_1 (List.mem_of_getElem? (i := 67) (by decide +kernel))) rfl
theorem fl_X4_18 : Cond.fieldLink RX4 18 "Percolated$Past" "size" "I" ∈ gTbl := gTbl_of (in_1 (List.mem_of_getElem? (i := 68) (by decide +kernel))) rfl
theorem cl_X5_29 : Cond.classLink RX5 29 RX1 ∈ gTbl := gTbl_of (in_1 (List.mem_of_getElem? (i := 76) (by decide +kernel))) rfl
theorem ia_X1 : Cond.instantiable RX1 2 ∈ gTbl := gTbl_of (in_1 (List.mem_of_getElem? (i := 77) (by decide +kernel))) rfl
theorem ml_X5_31 : Cond.methodLink RX5 31 yX1_init ∈ gTbl := gTbl_of (in_1 (List.mem_of_getElem? (i := 78) (by decide +kernel))) rfl
theorem im_X1_init : Cond.instanceMethod yX1_init ∈ gTbl := gTbl_of (in_1 (List.mem_of_getElem? (i := 79) (by decide +kernel))) rfl
theorem cd_X1_init : Cond.code yX1_init cX1_init 1 none ∈ gTbl := gTbl_of (in_1 (List.mem_of_getElem? (i := 80) rfl)) rfl
theorem ml_X1_3 : Cond.methodLink RX1 3 objectInit ∈ gTbl := gTbl_of (in_1 (List.mem_of_getElem? (i := 81) (by decide +kernel))) rfl
theorem fl_X1_9 : Cond.fieldLink RX1 9 "Percolated$Letters" "told" "[I" ∈ gTbl := gTbl_of (in_1 (List.mem_of_getElem? (i := 82) (by decide +kernel))) rfl
theorem fl_X1_15 : Cond.fieldLink RX1 15 "Percolated$Letters" "size" "I" ∈ gTbl := gTbl_of (in_1 (List.mem_of_getElem? (i := 83) (by decide +kernel))) rfl
theorem cl_X5_36 : Cond.classLink RX5 36 RX2 ∈ gTbl := gTbl_of (in_1 (List.mem_of_getElem? (i := 89) (by decide +kernel))) rfl
theorem ia_X2 : Cond.instantiable RX2 2 ∈ gTbl := gTbl_of (in_1 (List.mem_of_getElem? (i := 90) (by decide +kernel))) rfl
theorem ml_X5_38 : Cond.methodLink RX5 38 yX2_init ∈ gTbl := gTbl_of (in_1 (List.mem_of_getElem? (i := 91) (by decide +kernel))) rfl
theorem im_X2_init : Cond.instanceMethod yX2_init ∈ gTbl := gTbl_of (in_1 (List.mem_of_getElem? (i := 92) (by decide +kernel))) rfl
theorem cd_X2_init : Cond.code yX2_init cX2_init 1 none ∈ gTbl := gTbl_of (in_1 (List.mem_of_getElem? (i := 93) rfl)) rfl
theorem ml_X2_3 : Cond.methodLink RX2 3 objectInit ∈ gTbl := gTbl_of (in_1 (List.mem_of_getElem? (i := 94) (by decide +kernel))) rfl
theorem fl_X2_9 : Cond.fieldLink RX2 9 "Percolated$Numbers" "told" "[I" ∈ gTbl := gTbl_of (in_1 (List.mem_of_getElem? (i := 95) (by decide +kernel))) rfl
theorem fl_X2_15 : Cond.fieldLink RX2 15 "Percolated$Numbers" "size" "I" ∈ gTbl := gTbl_of (in_1 (List.mem_of_getElem? (i := 96) (by decide +kernel))) rfl
theorem fl_X5_10 : Cond.fieldLink RX5 10 "Percolated" "now" "LPercolated$Parish;" ∈ gTbl := gTbl_of (in_1 (List.mem_of_getElem? (i := 102) (by decide +kernel))) rfl
theorem fl_X5_16 : Cond.fieldLink RX5 16 "Percolated" "mind" "LPercolated$Parish;" ∈ gTbl := gTbl_of (in_1 (List.mem_of_getElem? (i := 103) (by decide +kernel))) rfl
theorem fl_X5_19 : Cond.fieldLink RX5 19 "Percolated" "picture" "LPercolated$Parish;" ∈ gTbl := gTbl_of (in_1 (List.mem_of_getElem? (i := 104) (by decide +kernel))) rfl
theorem fl_X5_25 : Cond.fieldLink RX5 25 "Percolated" "past" "LPercolated$Past;" ∈ gTbl := gTbl_of (in_1 (List.mem_of_getElem? (i := 105) (by decide +kernel))) rfl
theorem fl_X5_32 : Cond.fieldLink RX5 32 "Percolated" "letters" "LPercolated$Letters;" ∈ gTbl := gTbl_of (in_1 (List.mem_of_getElem? (i := 106) (by decide +kernel))) rfl
theorem fl_X5_39 : Cond.fieldLink RX5 39 "Percolated" "numbers" "LPercolated$Numbers;" ∈ gTbl := gTbl_of (in_1 (List.mem_of_getElem? (i := 107) (by decide +kernel))) rfl
theorem fl_X5_43 : Cond.fieldLink RX5 43 "Percolated" "refusals" "[I" ∈ gTbl := gTbl_of (in_1 (List.mem_of_getElem? (i := 108) (by decide +kernel))) rfl
theorem fl_X5_235 : Cond.fieldLink RX5 235 "Percolated" "pictured" "Z" ∈ gTbl := gTbl_of (in_1 (List.mem_of_getElem? (i := 109) (by decide +kernel))) rfl
theorem ml_L_13 : Cond.methodLink RL 13 yX5_feed ∈ gTbl := gTbl_of (in_1 (List.mem_of_getElem? (i := 127) (by decide +kernel))) rfl
theorem im_X5_feed : Cond.instanceMethod yX5_feed ∈ gTbl := gTbl_of (in_1 (List.mem_of_getElem? (i := 128) (by decide +kernel))) rfl
theorem sl_X5_feed : Cond.selects RX5 yX5_feed yX5_feed ∈ gTbl := gTbl_of (in_1 (List.mem_of_getElem? (i := 129) (by decide +kernel))) rfl
theorem cd_X5_feed : Cond.code yX5_feed cX5_feed 3 (some .int) ∈ gTbl := gTbl_of (in_1 (List.mem_of_getElem? (i := 130) rfl)) rfl
theorem ml_X5_47 : Cond.methodLink RX5 47 yX5_outside ∈ gTbl := gTbl_of (in_1 (List.mem_of_getElem? (i := 131) (by decide +kernel))) rfl
theorem sm_X5_outside : Cond.static yX5_outside ∈ gTbl := gTbl_of (in_1 (List.mem_of_getElem? (i := 132) (by decide +kernel))) rfl
theorem cd_X5_outside : Cond.code yX5_outside cX5_outside 3 (some .int) ∈ gTbl := gTbl_of (in_1 (List.mem_of_getElem? (i := 133) rfl)) rfl
theorem ml_X5_51 : Cond.methodLink RX5 51 yX5_refuse ∈ gTbl := gTbl_of (in_1 (List.mem_of_getElem? (i := 134) (by decide +kernel))) rfl
theorem im_X5_refuse : Cond.instanceMethod yX5_refuse ∈ gTbl := gTbl_of (in_1 (List.mem_of_getElem? (i := 136) (by decide +kernel))) rfl
theorem cd_X5_refuse : Cond.code yX5_refuse cX5_refuse 2 (some .int) ∈ gTbl := gTbl_of (in_1 (List.mem_of_getElem? (i := 137) rfl)) rfl
theorem ml_X5_55 : Cond.methodLink RX5 55 yX1_add ∈ gTbl := gTbl_of (in_1 (List.mem_of_getElem? (i := 138) (by decide +kernel))) rfl
theorem im_X1_add : Cond.instanceMethod yX1_add ∈ gTbl := gTbl_of (in_1 (List.mem_of_getElem? (i := 139) (by decide +kernel))) rfl
theorem sl_X1_add : Cond.selects RX1 yX1_add yX1_add ∈ gTbl := gTbl_of (in_1 (List.mem_of_getElem? (i := 140) (by decide +kernel))) rfl
theorem cd_X1_add : Cond.code yX1_add cX1_add 2 (some .boolean) ∈ gTbl := gTbl_of (in_1 (List.mem_of_getElem? (i := 141) rfl)) rfl
theorem ml_X5_59 : Cond.methodLink RX5 59 yX1_size ∈ gTbl := gTbl_of (in_1 (List.mem_of_getElem? (i := 142) (by decide +kernel))) rfl
theorem im_X1_size : Cond.instanceMethod yX1_size ∈ gTbl := gTbl_of (in_1 (List.mem_of_getElem? (i := 143) (by decide +kernel))) rfl
theorem sl_X1_size : Cond.selects RX1 yX1_size yX1_size ∈ gTbl := gTbl_of (in_1 (List.mem_of_getElem? (i := 144) (by decide +kernel))) rfl
theorem cd_X1_size : Cond.code yX1_size cX1_size 1 (some .int) ∈ gTbl := gTbl_of (in_1 (List.mem_of_getElem? (i := 145) rfl)) rfl
theorem ml_L_18 : Cond.methodLink RL 18 yX5_parish ∈ gTbl := gTbl_of (in_1 (List.mem_of_getElem? (i := 146) (by decide +kernel))) rfl
theorem im_X5_parish : Cond.instanceMethod yX5_parish ∈ gTbl := gTbl_of (in_1 (List.mem_of_getElem? (i := 147) (by decide +kernel))) rfl
theorem sl_X5_parish : Cond.selects RX5 yX5_parish yX5_parish ∈ gTbl := gTbl_of (in_1 (List.mem_of_getElem? (i := 148) (by decide +kernel))) rfl
theorem cd_X5_parish : Cond.code yX5_parish cX5_parish 3 (some .int) ∈ gTbl := gTbl_of (in_1 (List.mem_of_getElem? (i := 149) rfl)) rfl
theorem ml_X5_63 : Cond.methodLink RX5 63 yX1_firstFault ∈ gTbl := gTbl_of (in_1 (List.mem_of_getElem? (i := 150) (by decide +kernel))) rfl
theorem im_X1_firstFault : Cond.instanceMethod yX1_firstFault ∈ gTbl := gTbl_of (in_1 (List.mem_of_getElem? (i := 151) (by decide +kernel))) rfl
theorem sl_X1_firstFault : Cond.selects RX1 yX1_firstFault yX1_firstFault ∈ gTbl := gTbl_of (in_1 (List.mem_of_getElem? (i := 152) (by decide +kernel))) rfl
theorem cd_X1_firstFault : Cond.code yX1_firstFault cX1_firstFault 4 (some .int) ∈ gTbl := gTbl_of (in_1 (List.mem_of_getElem? (i := 153) rfl)) rfl
theorem ml_X1_27 : Cond.methodLink RX1 27 yX1_digitsBehind ∈ gTbl := gTbl_of (in_1 (List.mem_of_getElem? (i := 154) (by decide +kernel))) rfl
theorem sm_X1_digitsBehind : Cond.static yX1_digitsBehind ∈ gTbl := gTbl_of (in_1 (List.mem_of_getElem? (i := 155) (by decide +kernel))) rfl
theorem cd_X1_digitsBehind : Cond.code yX1_digitsBehind cX1_digitsBehind 1 (some .int) ∈ gTbl := gTbl_of (in_1 (List.mem_of_getElem? (i := 156) rfl)) rfl
theorem ml_X1_23 : Cond.methodLink RX1 23 yX1_isDigit ∈ gTbl := gTbl_of (in_1 (List.mem_of_getElem? (i := 157) (by decide +kernel))) rfl
theorem sm_X1_isDigit : Cond.static yX1_isDigit ∈ gTbl := gTbl_of (in_1 (List.mem_of_getElem? (i := 158) (by decide +kernel))) rfl
theorem cd_X1_isDigit : Cond.code yX1_isDigit cX1_isDigit 1 (some .boolean) ∈ gTbl := gTbl_of (in_1 (List.mem_of_getElem? (i := 159) rfl)) rfl
theorem ml_X5_66 : Cond.methodLink RX5 66 yX5_tellAll ∈ gTbl := gTbl_of (in_1 (List.mem_of_getElem? (i := 160) (by decide +kernel))) rfl
theorem im_X5_tellAll : Cond.instanceMethod yX5_tellAll ∈ gTbl := gTbl_of (in_1 (List.mem_of_getElem? (i := 162) (by decide +kernel))) rfl
theorem cd_X5_tellAll : Cond.code yX5_tellAll cX5_tellAll 3 (some .int) ∈ gTbl := gTbl_of (in_1 (List.mem_of_getElem? (i := 163) rfl)) rfl
theorem ml_X5_137 : Cond.methodLink RX5 137 yX5_think ∈ gTbl := gTbl_of (in_1 (List.mem_of_getElem? (i := 164) (by decide +kernel))) rfl
theorem im_X5_think : Cond.instanceMethod yX5_think ∈ gTbl := gTbl_of (in_1 (List.mem_of_getElem? (i := 166) (by decide +kernel))) rfl
theorem cd_X5_think : Cond.code yX5_think cX5_think 1 none ∈ gTbl := gTbl_of (in_1 (List.mem_of_getElem? (i := 167) rfl)) rfl
theorem ml_X5_232 : Cond.methodLink RX5 232 yX3_become ∈ gTbl := gTbl_of (in_1 (List.mem_of_getElem? (i := 168) (by decide +kernel))) rfl
theorem im_X3_become : Cond.instanceMethod yX3_become ∈ gTbl := gTbl_of (in_1 (List.mem_of_getElem? (i := 169) (by decide +kernel))) rfl
theorem sl_X3_become : Cond.selects RX3 yX3_become yX3_become ∈ gTbl := gTbl_of (in_1 (List.mem_of_getElem? (i := 170) (by decide +kernel))) rfl
theorem cd_X3_become : Cond.code yX3_become cX3_become 2 none ∈ gTbl := gTbl_of (in_1 (List.mem_of_getElem? (i := 171) rfl)) rfl
theorem ml_X3_24 : Cond.methodLink RX3 24 arraycopyName ∈ gTbl := gTbl_of (in_1 (List.mem_of_getElem? (i := 172) (by decide +kernel))) rfl
theorem sm_arraycopy : Cond.static arraycopyName ∈ gTbl := gTbl_of (in_1 (List.mem_of_getElem? (i := 173) (by decide +kernel))) rfl
theorem nv_arraycopy : Cond.native arraycopyName ∈ gTbl := gTbl_of (in_1 (List.mem_of_getElem? (i := 174) (by decide +kernel))) rfl
theorem ml_X5_247 : Cond.methodLink RX5 247 yX1_beginsAt ∈ gTbl := gTbl_of (in_1 (List.mem_of_getElem? (i := 175) (by decide +kernel))) rfl
theorem im_X1_beginsAt : Cond.instanceMethod yX1_beginsAt ∈ gTbl := gTbl_of (in_1 (List.mem_of_getElem? (i := 176) (by decide +kernel))) rfl
theorem sl_X1_beginsAt : Cond.selects RX1 yX1_beginsAt yX1_beginsAt ∈ gTbl := gTbl_of (in_1 (List.mem_of_getElem? (i := 177) (by decide +kernel))) rfl
theorem cd_X1_beginsAt : Cond.code yX1_beginsAt cX1_beginsAt 2 (some .boolean) ∈ gTbl := gTbl_of (in_1 (List.mem_of_getElem? (i := 178) rfl)) rfl
theorem ml_X1_19 : Cond.methodLink RX1 19 yX1_at ∈ gTbl := gTbl_of (in_1 (List.mem_of_getElem? (i := 179) (by decide +kernel))) rfl
theorem im_X1_at : Cond.instanceMethod yX1_at ∈ gTbl := gTbl_of (in_1 (List.mem_of_getElem? (i := 180) (by decide +kernel))) rfl
theorem sl_X1_at : Cond.selects RX1 yX1_at yX1_at ∈ gTbl := gTbl_of (in_1 (List.mem_of_getElem? (i := 181) (by decide +kernel))) rfl
theorem cd_X1_at : Cond.code yX1_at cX1_at 2 (some .int) ∈ gTbl := gTbl_of (in_1 (List.mem_of_getElem? (i := 182) rfl)) rfl
theorem ml_X5_250 : Cond.methodLink RX5 250 yX5_tell ∈ gTbl := gTbl_of (in_1 (List.mem_of_getElem? (i := 183) (by decide +kernel))) rfl
theorem im_X5_tell : Cond.instanceMethod yX5_tell ∈ gTbl := gTbl_of (in_1 (List.mem_of_getElem? (i := 185) (by decide +kernel))) rfl
theorem cd_X5_tell : Cond.code yX5_tell cX5_tell 4 (some .boolean) ∈ gTbl := gTbl_of (in_1 (List.mem_of_getElem? (i := 186) rfl)) rfl
theorem ml_X5_253 : Cond.methodLink RX5 253 yX1_digitAt ∈ gTbl := gTbl_of (in_1 (List.mem_of_getElem? (i := 187) (by decide +kernel))) rfl
theorem im_X1_digitAt : Cond.instanceMethod yX1_digitAt ∈ gTbl := gTbl_of (in_1 (List.mem_of_getElem? (i := 188) (by decide +kernel))) rfl
theorem sl_X1_digitAt : Cond.selects RX1 yX1_digitAt yX1_digitAt ∈ gTbl := gTbl_of (in_1 (List.mem_of_getElem? (i := 189) (by decide +kernel))) rfl
theorem cd_X1_digitAt : Cond.code yX1_digitAt cX1_digitAt 3 (some .int) ∈ gTbl := gTbl_of (in_1 (List.mem_of_getElem? (i := 190) rfl)) rfl
theorem ml_X5_256 : Cond.methodLink RX5 256 yX1_at ∈ gTbl := gTbl_of (in_1 (List.mem_of_getElem? (i := 191) (by decide +kernel))) rfl
theorem ml_X5_96 : Cond.methodLink RX5 96 yX3_build ∈ gTbl := gTbl_of (in_1 (List.mem_of_getElem? (i := 192) (by decide +kernel))) rfl
theorem im_X3_build : Cond.instanceMethod yX3_build ∈ gTbl := gTbl_of (in_1 (List.mem_of_getElem? (i := 193) (by decide +kernel))) rfl
theorem sl_X3_build : Cond.selects RX3 yX3_build yX3_build ∈ gTbl := gTbl_of (in_1 (List.mem_of_getElem? (i := 194) (by decide +kernel))) rfl
theorem cd_X3_build : Cond.code yX3_build cX3_build 3 (some .boolean) ∈ gTbl := gTbl_of (in_1 (List.mem_of_getElem? (i := 195) rfl)) rfl
theorem ml_X5_110 : Cond.methodLink RX5 110 yX3_lead ∈ gTbl := gTbl_of (in_1 (List.mem_of_getElem? (i := 196) (by decide +kernel))) rfl
theorem im_X3_lead : Cond.instanceMethod yX3_lead ∈ gTbl := gTbl_of (in_1 (List.mem_of_getElem? (i := 197) (by decide +kernel))) rfl
theorem sl_X3_lead : Cond.selects RX3 yX3_lead yX3_lead ∈ gTbl := gTbl_of (in_1 (List.mem_of_getElem? (i := 198) (by decide +kernel))) rfl
theorem cd_X3_lead : Cond.code yX3_lead cX3_lead 3 (some .boolean) ∈ gTbl := gTbl_of (in_1 (List.mem_of_getElem? (i := 199) rfl)) rfl
theorem ml_X3_46 : Cond.methodLink RX3 46 yX3_there ∈ gTbl := gTbl_of (in_1 (List.mem_of_getElem? (i := 200) (by decide +kernel))) rfl
theorem im_X3_there : Cond.instanceMethod yX3_there ∈ gTbl := gTbl_of (in_1 (List.mem_of_getElem? (i := 201) (by decide +kernel))) rfl
theorem sl_X3_there : Cond.selects RX3 yX3_there yX3_there ∈ gTbl := gTbl_of (in_1 (List.mem_of_getElem? (i := 202) (by decide +kernel))) rfl
theorem cd_X3_there : Cond.code yX3_there cX3_there 2 (some .boolean) ∈ gTbl := gTbl_of (in_1 (List.mem_of_getElem? (i := 203) rfl)) rfl
theorem ml_X5_113 : Cond.methodLink RX5 113 yX3_blockOrFree ∈ gTbl := gTbl_of (in_1 (List.mem_of_getElem? (i := 204) (by decide +kernel))) rfl
theorem im_X3_blockOrFree : Cond.instanceMethod yX3_blockOrFree ∈ gTbl := gTbl_of (in_1 (List.mem_of_getElem? (i := 205) (by decide +kernel))) rfl
theorem sl_X3_blockOrFree : Cond.selects RX3 yX3_blockOrFree yX3_blockOrFree ∈ gTbl := gTbl_of (in_1 (List.mem_of_getElem? (i := 206) (by decide +kernel))) rfl
theorem cd_X3_blockOrFree : Cond.code yX3_blockOrFree cX3_blockOrFree 2 (some .boolean) ∈ gTbl := gTbl_of (in_1 (List.mem_of_getElem? (i := 207) rfl)) rfl
theorem ml_X5_116 : Cond.methodLink RX5 116 yX3_fill ∈ gTbl := gTbl_of (in_1 (List.mem_of_getElem? (i := 208) (by decide +kernel))) rfl
theorem im_X3_fill : Cond.instanceMethod yX3_fill ∈ gTbl := gTbl_of (in_1 (List.mem_of_getElem? (i := 209) (by decide +kernel))) rfl
theorem sl_X3_fill : Cond.selects RX3 yX3_fill yX3_fill ∈ gTbl := gTbl_of (in_1 (List.mem_of_getElem? (i := 210) (by decide +kernel))) rfl
theorem cd_X3_fill : Cond.code yX3_fill cX3_fill 3 (some .boolean) ∈ gTbl := gTbl_of (in_1 (List.mem_of_getElem? (i := 211) rfl)) rfl
theorem ml_X3_60 : Cond.methodLink RX3 60 Lib.Math.min.name ∈ gTbl := gTbl_of (in_1 (List.mem_of_getElem? (i := 212) (by decide +kernel))) rfl
theorem sm_J9_min_7cf53 : Cond.static Lib.Math.min.name ∈ gTbl := gTbl_of (in_1 (List.mem_of_getElem? (i := 213) (by decide +kernel))) rfl
theorem cd_min : Cond.code Lib.Math.min.name Lib.Math.min.code 2 (some .int) ∈ gTbl := gTbl_of (in_1 (List.mem_of_getElem? (i := 214) rfl)) rfl
theorem ml_X5_122 : Cond.methodLink RX5 122 yX3_emptyCup ∈ gTbl := gTbl_of (in_1 (List.mem_of_getElem? (i := 215) (by decide +kernel))) rfl
theorem im_X3_emptyCup : Cond.instanceMethod yX3_emptyCup ∈ gTbl := gTbl_of (in_1 (List.mem_of_getElem? (i := 216) (by decide +kernel))) rfl
theorem sl_X3_emptyCup : Cond.selects RX3 yX3_emptyCup yX3_emptyCup ∈ gTbl := gTbl_of (in_1 (List.mem_of_getElem? (i := 217) (by decide +kernel))) rfl
theorem cd_X3_emptyCup : Cond.code yX3_emptyCup cX3_emptyCup 1 none ∈ gTbl := gTbl_of (in_1 (List.mem_of_getElem? (i := 218) rfl)) rfl
theorem ml_X5_125 : Cond.methodLink RX5 125 yX3_hasTimeFor ∈ gTbl := gTbl_of (in_1 (List.mem_of_getElem? (i := 219) (by decide +kernel))) rfl
theorem im_X3_hasTimeFor : Cond.instanceMethod yX3_hasTimeFor ∈ gTbl := gTbl_of (in_1 (List.mem_of_getElem? (i := 220) (by decide +kernel))) rfl
theorem sl_X3_hasTimeFor : Cond.selects RX3 yX3_hasTimeFor yX3_hasTimeFor ∈ gTbl := gTbl_of (in_1 (List.mem_of_getElem? (i := 221) (by decide +kernel))) rfl
theorem cd_X3_hasTimeFor : Cond.code yX3_hasTimeFor cX3_hasTimeFor 2 (some .boolean) ∈ gTbl := gTbl_of (in_1 (List.mem_of_getElem? (i := 222) rfl)) rfl
theorem ml_X5_128 : Cond.methodLink RX5 128 yX3_pass ∈ gTbl := gTbl_of (in_1 (List.mem_of_getElem? (i := 223) (by decide +kernel))) rfl
theorem im_X3_pass : Cond.instanceMethod yX3_pass ∈ gTbl := gTbl_of (in_1 (List.mem_of_getElem? (i := 224) (by decide +kernel))) rfl
theorem sl_X3_pass : Cond.selects RX3 yX3_pass yX3_pass ∈ gTbl := gTbl_of (in_1 (List.mem_of_getElem? (i := 225) (by decide +kernel))) rfl
theorem cd_X3_pass : Cond.code yX3_pass cX3_pass 3 none ∈ gTbl := gTbl_of (in_1 (List.mem_of_getElem? (i := 226) rfl)) rfl
theorem ml_X3_76 : Cond.methodLink RX3 76 yX3_flow ∈ gTbl := gTbl_of (in_1 (List.mem_of_getElem? (i := 227) (by decide +kernel))) rfl
theorem im_X3_flow : Cond.instanceMethod yX3_flow ∈ gTbl := gTbl_of (in_1 (List.mem_of_getElem? (i := 228) (by decide +kernel))) rfl
theorem sl_X3_flow : Cond.selects RX3 yX3_flow yX3_flow ∈ gTbl := gTbl_of (in_1 (List.mem_of_getElem? (i := 229) (by decide +kernel))) rfl
theorem cd_X3_flow : Cond.code yX3_flow cX3_flow 5 (some .boolean) ∈ gTbl := gTbl_of (in_1 (List.mem_of_getElem? (i := 230) rfl)) rfl
theorem ml_X3_66 : Cond.methodLink RX3 66 yX3_isBlocked ∈ gTbl := gTbl_of (in_1 (List.mem_of_getElem? (i := 231) (by decide +kernel))) rfl
theorem im_X3_isBlocked : Cond.instanceMethod yX3_isBlocked ∈ gTbl := gTbl_of (in_1 (List.mem_of_getElem? (i := 232) (by decide +kernel))) rfl
theorem sl_X3_isBlocked : Cond.selects RX3 yX3_isBlocked yX3_isBlocked ∈ gTbl := gTbl_of (in_1 (List.mem_of_getElem? (i := 233) (by decide +kernel))) rfl
theorem cd_X3_isBlocked : Cond.code yX3_isBlocked cX3_isBlocked 2 (some .boolean) ∈ gTbl := gTbl_of (in_1 (List.mem_of_getElem? (i := 234) rfl)) rfl
theorem ml_X3_50 : Cond.methodLink RX3 50 yX0_letsThrough ∈ gTbl := gTbl_of (in_1 (List.mem_of_getElem? (i := 235) (by decide +kernel))) rfl
theorem sm_X0_letsThrough : Cond.static yX0_letsThrough ∈ gTbl := gTbl_of (in_1 (List.mem_of_getElem? (i := 236) (by decide +kernel))) rfl
theorem cd_X0_letsThrough : Cond.code yX0_letsThrough cX0_letsThrough 5 (some .int) ∈ gTbl := gTbl_of (in_1 (List.mem_of_getElem? (i := 237) rfl)) rfl
theorem ml_X0_7 : Cond.methodLink RX0 7 yX0_stands ∈ gTbl := gTbl_of (in_1 (List.mem_of_getElem? (i := 238) (by decide +kernel))) rfl
theorem sm_X0_stands : Cond.static yX0_stands ∈ gTbl := gTbl_of (in_1 (List.mem_of_getElem? (i := 239) (by decide +kernel))) rfl
theorem cd_X0_stands : Cond.code yX0_stands cX0_stands 1 (some .int) ∈ gTbl := gTbl_of (in_2 (List.mem_of_getElem? (i := 0) rfl)) rfl
theorem ml_X0_13 : Cond.methodLink RX0 13 yX0_wouldLet ∈ gTbl := gTbl_of (in_2 (List.mem_of_getElem? (i := 1) (by decide +kernel))) rfl
theorem sm_X0_wouldLet : Cond.static yX0_wouldLet ∈ gTbl := gTbl_of (in_2 (List.mem_of_getElem? (i := 2) (by decide +kernel))) rfl
theorem cd_X0_wouldLet : Cond.code yX0_wouldLet cX0_wouldLet 3 (some .int) ∈ gTbl := gTbl_of (in_2 (List.mem_of_getElem? (i := 3) rfl)) rfl
theorem ml_X3_69 : Cond.methodLink RX3 69 yX0_adds ∈ gTbl := gTbl_of (in_2 (List.mem_of_getElem? (i := 4) (by decide +kernel))) rfl
theorem sm_X0_adds : Cond.static yX0_adds ∈ gTbl := gTbl_of (in_2 (List.mem_of_getElem? (i := 5) (by decide +kernel))) rfl
theorem cd_X0_adds : Cond.code yX0_adds cX0_adds 2 (some .int) ∈ gTbl := gTbl_of (in_2 (List.mem_of_getElem? (i := 6) rfl)) rfl
theorem ml_X3_72 : Cond.methodLink RX3 72 yX3_fill ∈ gTbl := gTbl_of (in_2 (List.mem_of_getElem? (i := 7) (by decide +kernel))) rfl
theorem ml_X5_100 : Cond.methodLink RX5 100 yX4_forget ∈ gTbl := gTbl_of (in_2 (List.mem_of_getElem? (i := 8) (by decide +kernel))) rfl
theorem im_X4_forget : Cond.instanceMethod yX4_forget ∈ gTbl := gTbl_of (in_2 (List.mem_of_getElem? (i := 9) (by decide +kernel))) rfl
theorem sl_X4_forget : Cond.selects RX4 yX4_forget yX4_forget ∈ gTbl := gTbl_of (in_2 (List.mem_of_getElem? (i := 10) (by decide +kernel))) rfl
theorem cd_X4_forget : Cond.code yX4_forget cX4_forget 1 none ∈ gTbl := gTbl_of (in_2 (List.mem_of_getElem? (i := 11) rfl)) rfl
theorem ml_X5_69 : Cond.methodLink RX5 69 yX1_drop ∈ gTbl := gTbl_of (in_2 (List.mem_of_getElem? (i := 12) (by decide +kernel))) rfl
theorem im_X1_drop : Cond.instanceMethod yX1_drop ∈ gTbl := gTbl_of (in_2 (List.mem_of_getElem? (i := 13) (by decide +kernel))) rfl
theorem sl_X1_drop : Cond.selects RX1 yX1_drop yX1_drop ∈ gTbl := gTbl_of (in_2 (List.mem_of_getElem? (i := 14) (by decide +kernel))) rfl
theorem cd_X1_drop : Cond.code yX1_drop cX1_drop 1 none ∈ gTbl := gTbl_of (in_2 (List.mem_of_getElem? (i := 15) rfl)) rfl
theorem ml_L_23 : Cond.methodLink RL 23 yX5_houseOf ∈ gTbl := gTbl_of (in_2 (List.mem_of_getElem? (i := 16) (by decide +kernel))) rfl
theorem im_X5_houseOf : Cond.instanceMethod yX5_houseOf ∈ gTbl := gTbl_of (in_2 (List.mem_of_getElem? (i := 17) (by decide +kernel))) rfl
theorem sl_X5_houseOf : Cond.selects RX5 yX5_houseOf yX5_houseOf ∈ gTbl := gTbl_of (in_2 (List.mem_of_getElem? (i := 18) (by decide +kernel))) rfl
theorem cd_X5_houseOf : Cond.code yX5_houseOf cX5_houseOf 3 (some .int) ∈ gTbl := gTbl_of (in_2 (List.mem_of_getElem? (i := 19) rfl)) rfl
theorem ml_X5_72 : Cond.methodLink RX5 72 yX3_there ∈ gTbl := gTbl_of (in_2 (List.mem_of_getElem? (i := 20) (by decide +kernel))) rfl
theorem ml_X5_75 : Cond.methodLink RX5 75 yX3_kindOf ∈ gTbl := gTbl_of (in_2 (List.mem_of_getElem? (i := 21) (by decide +kernel))) rfl
theorem im_X3_kindOf : Cond.instanceMethod yX3_kindOf ∈ gTbl := gTbl_of (in_2 (List.mem_of_getElem? (i := 22) (by decide +kernel))) rfl
theorem sl_X3_kindOf : Cond.selects RX3 yX3_kindOf yX3_kindOf ∈ gTbl := gTbl_of (in_2 (List.mem_of_getElem? (i := 23) (by decide +kernel))) rfl
theorem cd_X3_kindOf : Cond.code yX3_kindOf cX3_kindOf 2 (some .int) ∈ gTbl := gTbl_of (in_2 (List.mem_of_getElem? (i := 24) rfl)) rfl
theorem ml_X5_78 : Cond.methodLink RX5 78 yX3_figureOf ∈ gTbl := gTbl_of (in_2 (List.mem_of_getElem? (i := 25) (by decide +kernel))) rfl
theorem im_X3_figureOf : Cond.instanceMethod yX3_figureOf ∈ gTbl := gTbl_of (in_2 (List.mem_of_getElem? (i := 26) (by decide +kernel))) rfl
theorem sl_X3_figureOf : Cond.selects RX3 yX3_figureOf yX3_figureOf ∈ gTbl := gTbl_of (in_2 (List.mem_of_getElem? (i := 27) (by decide +kernel))) rfl
theorem cd_X3_figureOf : Cond.code yX3_figureOf cX3_figureOf 2 (some .int) ∈ gTbl := gTbl_of (in_2 (List.mem_of_getElem? (i := 28) rfl)) rfl
theorem ml_X5_81 : Cond.methodLink RX5 81 yX3_holdsOf ∈ gTbl := gTbl_of (in_2 (List.mem_of_getElem? (i := 29) (by decide +kernel))) rfl
theorem im_X3_holdsOf : Cond.instanceMethod yX3_holdsOf ∈ gTbl := gTbl_of (in_2 (List.mem_of_getElem? (i := 30) (by decide +kernel))) rfl
theorem sl_X3_holdsOf : Cond.selects RX3 yX3_holdsOf yX3_holdsOf ∈ gTbl := gTbl_of (in_2 (List.mem_of_getElem? (i := 31) (by decide +kernel))) rfl
theorem cd_X3_holdsOf : Cond.code yX3_holdsOf cX3_holdsOf 2 (some .int) ∈ gTbl := gTbl_of (in_2 (List.mem_of_getElem? (i := 32) rfl)) rfl
theorem ml_X5_84 : Cond.methodLink RX5 84 yX3_nextOf ∈ gTbl := gTbl_of (in_2 (List.mem_of_getElem? (i := 33) (by decide +kernel))) rfl
theorem im_X3_nextOf : Cond.instanceMethod yX3_nextOf ∈ gTbl := gTbl_of (in_2 (List.mem_of_getElem? (i := 34) (by decide +kernel))) rfl
theorem sl_X3_nextOf : Cond.selects RX3 yX3_nextOf yX3_nextOf ∈ gTbl := gTbl_of (in_2 (List.mem_of_getElem? (i := 35) (by decide +kernel))) rfl
theorem cd_X3_nextOf : Cond.code yX3_nextOf cX3_nextOf 2 (some .int) ∈ gTbl := gTbl_of (in_2 (List.mem_of_getElem? (i := 36) rfl)) rfl
theorem ml_X5_87 : Cond.methodLink RX5 87 yX3_isBlocked ∈ gTbl := gTbl_of (in_2 (List.mem_of_getElem? (i := 37) (by decide +kernel))) rfl
theorem ml_X5_90 : Cond.methodLink RX5 90 yX3_isWet ∈ gTbl := gTbl_of (in_2 (List.mem_of_getElem? (i := 38) (by decide +kernel))) rfl
theorem im_X3_isWet : Cond.instanceMethod yX3_isWet ∈ gTbl := gTbl_of (in_2 (List.mem_of_getElem? (i := 39) (by decide +kernel))) rfl
theorem sl_X3_isWet : Cond.selects RX3 yX3_isWet yX3_isWet ∈ gTbl := gTbl_of (in_2 (List.mem_of_getElem? (i := 40) (by decide +kernel))) rfl
theorem cd_X3_isWet : Cond.code yX3_isWet cX3_isWet 2 (some .boolean) ∈ gTbl := gTbl_of (in_2 (List.mem_of_getElem? (i := 41) rfl)) rfl
theorem ml_X5_93 : Cond.methodLink RX5 93 yX3_letsThrough ∈ gTbl := gTbl_of (in_2 (List.mem_of_getElem? (i := 42) (by decide +kernel))) rfl
theorem im_X3_letsThrough : Cond.instanceMethod yX3_letsThrough ∈ gTbl := gTbl_of (in_2 (List.mem_of_getElem? (i := 43) (by decide +kernel))) rfl
theorem sl_X3_letsThrough : Cond.selects RX3 yX3_letsThrough yX3_letsThrough ∈ gTbl := gTbl_of (in_2 (List.mem_of_getElem? (i := 44) (by decide +kernel))) rfl
theorem cd_X3_letsThrough : Cond.code yX3_letsThrough cX3_letsThrough 2 (some .int) ∈ gTbl := gTbl_of (in_2 (List.mem_of_getElem? (i := 45) rfl)) rfl
theorem ml_L_28 : Cond.methodLink RL 28 yX5_house ∈ gTbl := gTbl_of (in_2 (List.mem_of_getElem? (i := 46) (by decide +kernel))) rfl
theorem im_X5_house : Cond.instanceMethod yX5_house ∈ gTbl := gTbl_of (in_2 (List.mem_of_getElem? (i := 47) (by decide +kernel))) rfl
theorem sl_X5_house : Cond.selects RX5 yX5_house yX5_house ∈ gTbl := gTbl_of (in_2 (List.mem_of_getElem? (i := 48) (by decide +kernel))) rfl
theorem cd_X5_house : Cond.code yX5_house cX5_house 4 (some .int) ∈ gTbl := gTbl_of (in_2 (List.mem_of_getElem? (i := 49) rfl)) rfl
theorem ml_X5_103 : Cond.methodLink RX5 103 yX3_houses ∈ gTbl := gTbl_of (in_2 (List.mem_of_getElem? (i := 50) (by decide +kernel))) rfl
theorem im_X3_houses : Cond.instanceMethod yX3_houses ∈ gTbl := gTbl_of (in_2 (List.mem_of_getElem? (i := 51) (by decide +kernel))) rfl
theorem sl_X3_houses : Cond.selects RX3 yX3_houses yX3_houses ∈ gTbl := gTbl_of (in_2 (List.mem_of_getElem? (i := 52) (by decide +kernel))) rfl
theorem cd_X3_houses : Cond.code yX3_houses cX3_houses 1 (some .int) ∈ gTbl := gTbl_of (in_2 (List.mem_of_getElem? (i := 53) rfl)) rfl
theorem ml_L_32 : Cond.methodLink RL 32 yX5_joins ∈ gTbl := gTbl_of (in_2 (List.mem_of_getElem? (i := 54) (by decide +kernel))) rfl
theorem im_X5_joins : Cond.instanceMethod yX5_joins ∈ gTbl := gTbl_of (in_2 (List.mem_of_getElem? (i := 55) (by decide +kernel))) rfl
theorem sl_X5_joins : Cond.selects RX5 yX5_joins yX5_joins ∈ gTbl := gTbl_of (in_2 (List.mem_of_getElem? (i := 56) (by decide +kernel))) rfl
theorem cd_X5_joins : Cond.code yX5_joins cX5_joins 4 (some .int) ∈ gTbl := gTbl_of (in_2 (List.mem_of_getElem? (i := 57) rfl)) rfl
theorem ml_X5_106 : Cond.methodLink RX5 106 yX4_keep ∈ gTbl := gTbl_of (in_2 (List.mem_of_getElem? (i := 58) (by decide +kernel))) rfl
theorem im_X4_keep : Cond.instanceMethod yX4_keep ∈ gTbl := gTbl_of (in_2 (List.mem_of_getElem? (i := 59) (by decide +kernel))) rfl
theorem sl_X4_keep : Cond.selects RX4 yX4_keep yX4_keep ∈ gTbl := gTbl_of (in_2 (List.mem_of_getElem? (i := 60) (by decide +kernel))) rfl
theorem cd_X4_keep : Cond.code yX4_keep cX4_keep 3 none ∈ gTbl := gTbl_of (in_2 (List.mem_of_getElem? (i := 61) rfl)) rfl
theorem ml_X4_25 : Cond.methodLink RX4 25 Lib.Math.min.name ∈ gTbl := gTbl_of (in_2 (List.mem_of_getElem? (i := 62) (by decide +kernel))) rfl
theorem ml_X4_31 : Cond.methodLink RX4 31 yX3_become ∈ gTbl := gTbl_of (in_2 (List.mem_of_getElem? (i := 63) (by decide +kernel))) rfl
theorem ml_L_36 : Cond.methodLink RL 36 yX5_blocks ∈ gTbl := gTbl_of (in_2 (List.mem_of_getElem? (i := 64) (by decide +kernel))) rfl
theorem im_X5_blocks : Cond.instanceMethod yX5_blocks ∈ gTbl := gTbl_of (in_2 (List.mem_of_getElem? (i := 65) (by decide +kernel))) rfl
theorem sl_X5_blocks : Cond.selects RX5 yX5_blocks yX5_blocks ∈ gTbl := gTbl_of (in_2 (List.mem_of_getElem? (i := 66) (by decide +kernel))) rfl
theorem cd_X5_blocks : Cond.code yX5_blocks cX5_blocks 2 (some .int) ∈ gTbl := gTbl_of (in_2 (List.mem_of_getElem? (i := 67) rfl)) rfl
theorem ml_L_40 : Cond.methodLink RL 40 yX5_pours ∈ gTbl := gTbl_of (in_2 (List.mem_of_getElem? (i := 68) (by decide +kernel))) rfl
theorem im_X5_pours : Cond.instanceMethod yX5_pours ∈ gTbl := gTbl_of (in_2 (List.mem_of_getElem? (i := 69) (by decide +kernel))) rfl
theorem sl_X5_pours : Cond.selects RX5 yX5_pours yX5_pours ∈ gTbl := gTbl_of (in_2 (List.mem_of_getElem? (i := 70) (by decide +kernel))) rfl
theorem cd_X5_pours : Cond.code yX5_pours cX5_pours 4 (some .int) ∈ gTbl := gTbl_of (in_2 (List.mem_of_getElem? (i := 71) rfl)) rfl
theorem ml_L_44 : Cond.methodLink RL 44 yX5_empties ∈ gTbl := gTbl_of (in_2 (List.mem_of_getElem? (i := 72) (by decide +kernel))) rfl
theorem im_X5_empties : Cond.instanceMethod yX5_empties ∈ gTbl := gTbl_of (in_2 (List.mem_of_getElem? (i := 73) (by decide +kernel))) rfl
theorem sl_X5_empties : Cond.selects RX5 yX5_empties yX5_empties ∈ gTbl := gTbl_of (in_2 (List.mem_of_getElem? (i := 74) (by decide +kernel))) rfl
theorem cd_X5_empties : Cond.code yX5_empties cX5_empties 2 (some .int) ∈ gTbl := gTbl_of (in_2 (List.mem_of_getElem? (i := 75) rfl)) rfl
theorem ml_X5_119 : Cond.methodLink RX5 119 yX3_inCup ∈ gTbl := gTbl_of (in_2 (List.mem_of_getElem? (i := 76) (by decide +kernel))) rfl
theorem im_X3_inCup : Cond.instanceMethod yX3_inCup ∈ gTbl := gTbl_of (in_2 (List.mem_of_getElem? (i := 77) (by decide +kernel))) rfl
theorem sl_X3_inCup : Cond.selects RX3 yX3_inCup yX3_inCup ∈ gTbl := gTbl_of (in_2 (List.mem_of_getElem? (i := 78) (by decide +kernel))) rfl
theorem cd_X3_inCup : Cond.code yX3_inCup cX3_inCup 1 (some .int) ∈ gTbl := gTbl_of (in_2 (List.mem_of_getElem? (i := 79) rfl)) rfl
theorem ml_L_48 : Cond.methodLink RL 48 yX5_hours ∈ gTbl := gTbl_of (in_2 (List.mem_of_getElem? (i := 80) (by decide +kernel))) rfl
theorem im_X5_hours : Cond.instanceMethod yX5_hours ∈ gTbl := gTbl_of (in_2 (List.mem_of_getElem? (i := 81) (by decide +kernel))) rfl
theorem sl_X5_hours : Cond.selects RX5 yX5_hours yX5_hours ∈ gTbl := gTbl_of (in_2 (List.mem_of_getElem? (i := 82) (by decide +kernel))) rfl
theorem cd_X5_hours : Cond.code yX5_hours cX5_hours 3 (some .int) ∈ gTbl := gTbl_of (in_2 (List.mem_of_getElem? (i := 83) rfl)) rfl
theorem ml_L_52 : Cond.methodLink RL 52 yX5_back ∈ gTbl := gTbl_of (in_2 (List.mem_of_getElem? (i := 84) (by decide +kernel))) rfl
theorem im_X5_back : Cond.instanceMethod yX5_back ∈ gTbl := gTbl_of (in_2 (List.mem_of_getElem? (i := 85) (by decide +kernel))) rfl
theorem sl_X5_back : Cond.selects RX5 yX5_back yX5_back ∈ gTbl := gTbl_of (in_2 (List.mem_of_getElem? (i := 86) (by decide +kernel))) rfl
theorem cd_X5_back : Cond.code yX5_back cX5_back 1 (some .int) ∈ gTbl := gTbl_of (in_2 (List.mem_of_getElem? (i := 87) rfl)) rfl
theorem ml_X5_132 : Cond.methodLink RX5 132 yX4_giveLatest ∈ gTbl := gTbl_of (in_2 (List.mem_of_getElem? (i := 88) (by decide +kernel))) rfl
theorem im_X4_giveLatest : Cond.instanceMethod yX4_giveLatest ∈ gTbl := gTbl_of (in_2 (List.mem_of_getElem? (i := 89) (by decide +kernel))) rfl
theorem sl_X4_giveLatest : Cond.selects RX4 yX4_giveLatest yX4_giveLatest ∈ gTbl := gTbl_of (in_2 (List.mem_of_getElem? (i := 90) (by decide +kernel))) rfl
theorem cd_X4_giveLatest : Cond.code yX4_giveLatest cX4_giveLatest 2 (some .boolean) ∈ gTbl := gTbl_of (in_2 (List.mem_of_getElem? (i := 91) rfl)) rfl
theorem ml_X5_136 : Cond.methodLink RX5 136 yX4_size ∈ gTbl := gTbl_of (in_2 (List.mem_of_getElem? (i := 92) (by decide +kernel))) rfl
theorem im_X4_size : Cond.instanceMethod yX4_size ∈ gTbl := gTbl_of (in_2 (List.mem_of_getElem? (i := 93) (by decide +kernel))) rfl
theorem sl_X4_size : Cond.selects RX4 yX4_size yX4_size ∈ gTbl := gTbl_of (in_2 (List.mem_of_getElem? (i := 94) (by decide +kernel))) rfl
theorem cd_X4_size : Cond.code yX4_size cX4_size 1 (some .int) ∈ gTbl := gTbl_of (in_2 (List.mem_of_getElem? (i := 95) rfl)) rfl
theorem ml_L_56 : Cond.methodLink RL 56 yX5_holdsIn ∈ gTbl := gTbl_of (in_2 (List.mem_of_getElem? (i := 96) (by decide +kernel))) rfl
theorem im_X5_holdsIn : Cond.instanceMethod yX5_holdsIn ∈ gTbl := gTbl_of (in_2 (List.mem_of_getElem? (i := 97) (by decide +kernel))) rfl
theorem sl_X5_holdsIn : Cond.selects RX5 yX5_holdsIn yX5_holdsIn ∈ gTbl := gTbl_of (in_2 (List.mem_of_getElem? (i := 98) (by decide +kernel))) rfl
theorem cd_X5_holdsIn : Cond.code yX5_holdsIn cX5_holdsIn 4 (some .int) ∈ gTbl := gTbl_of (in_2 (List.mem_of_getElem? (i := 99) rfl)) rfl
theorem ml_L_60 : Cond.methodLink RL 60 yX5_then ∈ gTbl := gTbl_of (in_2 (List.mem_of_getElem? (i := 100) (by decide +kernel))) rfl
theorem im_X5_then : Cond.instanceMethod yX5_then ∈ gTbl := gTbl_of (in_2 (List.mem_of_getElem? (i := 101) (by decide +kernel))) rfl
theorem sl_X5_then : Cond.selects RX5 yX5_then yX5_then ∈ gTbl := gTbl_of (in_2 (List.mem_of_getElem? (i := 102) (by decide +kernel))) rfl
theorem cd_X5_then : Cond.code yX5_then cX5_then 4 (some .int) ∈ gTbl := gTbl_of (in_2 (List.mem_of_getElem? (i := 103) rfl)) rfl
theorem ml_X5_140 : Cond.methodLink RX5 140 yX3_holdsInAll ∈ gTbl := gTbl_of (in_2 (List.mem_of_getElem? (i := 104) (by decide +kernel))) rfl
theorem im_X3_holdsInAll : Cond.instanceMethod yX3_holdsInAll ∈ gTbl := gTbl_of (in_2 (List.mem_of_getElem? (i := 105) (by decide +kernel))) rfl
theorem sl_X3_holdsInAll : Cond.selects RX3 yX3_holdsInAll yX3_holdsInAll ∈ gTbl := gTbl_of (in_2 (List.mem_of_getElem? (i := 106) (by decide +kernel))) rfl
theorem cd_X3_holdsInAll : Cond.code yX3_holdsInAll cX3_holdsInAll 3 (some .int) ∈ gTbl := gTbl_of (in_2 (List.mem_of_getElem? (i := 107) rfl)) rfl
theorem ml_L_64 : Cond.methodLink RL 64 yX5_drip ∈ gTbl := gTbl_of (in_2 (List.mem_of_getElem? (i := 108) (by decide +kernel))) rfl
theorem im_X5_drip : Cond.instanceMethod yX5_drip ∈ gTbl := gTbl_of (in_2 (List.mem_of_getElem? (i := 109) (by decide +kernel))) rfl
theorem sl_X5_drip : Cond.selects RX5 yX5_drip yX5_drip ∈ gTbl := gTbl_of (in_2 (List.mem_of_getElem? (i := 110) (by decide +kernel))) rfl
theorem cd_X5_drip : Cond.code yX5_drip cX5_drip 2 (some .int) ∈ gTbl := gTbl_of (in_2 (List.mem_of_getElem? (i := 111) rfl)) rfl
theorem ml_X5_143 : Cond.methodLink RX5 143 yX5_firstDrip ∈ gTbl := gTbl_of (in_2 (List.mem_of_getElem? (i := 112) (by decide +kernel))) rfl
theorem im_X5_firstDrip : Cond.instanceMethod yX5_firstDrip ∈ gTbl := gTbl_of (in_2 (List.mem_of_getElem? (i := 114) (by decide +kernel))) rfl
theorem cd_X5_firstDrip : Cond.code yX5_firstDrip cX5_firstDrip 2 (some .int) ∈ gTbl := gTbl_of (in_2 (List.mem_of_getElem? (i := 115) rfl)) rfl
theorem ml_X5_152 : Cond.methodLink RX5 152 yX3_flow ∈ gTbl := gTbl_of (in_2 (List.mem_of_getElem? (i := 116) (by decide +kernel))) rfl
theorem ml_X5_146 : Cond.methodLink RX5 146 yX5_driedAfter ∈ gTbl := gTbl_of (in_2 (List.mem_of_getElem? (i := 117) (by decide +kernel))) rfl
theorem im_X5_driedAfter : Cond.instanceMethod yX5_driedAfter ∈ gTbl := gTbl_of (in_2 (List.mem_of_getElem? (i := 119) (by decide +kernel))) rfl
theorem cd_X5_driedAfter : Cond.code yX5_driedAfter cX5_driedAfter 2 (some .int) ∈ gTbl := gTbl_of (in_2 (List.mem_of_getElem? (i := 120) rfl)) rfl
theorem ml_X5_149 : Cond.methodLink RX5 149 yX5_settledAfter ∈ gTbl := gTbl_of (in_2 (List.mem_of_getElem? (i := 121) (by decide +kernel))) rfl
theorem im_X5_settledAfter : Cond.instanceMethod yX5_settledAfter ∈ gTbl := gTbl_of (in_2 (List.mem_of_getElem? (i := 123) (by decide +kernel))) rfl
theorem cd_X5_settledAfter : Cond.code yX5_settledAfter cX5_settledAfter 2 (some .int) ∈ gTbl := gTbl_of (in_2 (List.mem_of_getElem? (i := 124) rfl)) rfl
theorem ml_L_68 : Cond.methodLink RL 68 yX5_reaches ∈ gTbl := gTbl_of (in_2 (List.mem_of_getElem? (i := 125) (by decide +kernel))) rfl
theorem im_X5_reaches : Cond.instanceMethod yX5_reaches ∈ gTbl := gTbl_of (in_2 (List.mem_of_getElem? (i := 126) (by decide +kernel))) rfl
theorem sl_X5_reaches : Cond.selects RX5 yX5_reaches yX5_reaches ∈ gTbl := gTbl_of (in_2 (List.mem_of_getElem? (i := 127) (by decide +kernel))) rfl
theorem cd_X5_reaches : Cond.code yX5_reaches cX5_reaches 5 (some .int) ∈ gTbl := gTbl_of (in_2 (List.mem_of_getElem? (i := 128) rfl)) rfl
theorem ml_L_72 : Cond.methodLink RL 72 yX5_pour ∈ gTbl := gTbl_of (in_2 (List.mem_of_getElem? (i := 129) (by decide +kernel))) rfl
theorem im_X5_pour : Cond.instanceMethod yX5_pour ∈ gTbl := gTbl_of (in_2 (List.mem_of_getElem? (i := 130) (by decide +kernel))) rfl
theorem sl_X5_pour : Cond.selects RX5 yX5_pour yX5_pour ∈ gTbl := gTbl_of (in_2 (List.mem_of_getElem? (i := 131) (by decide +kernel))) rfl
theorem cd_X5_pour : Cond.code yX5_pour cX5_pour 8 (some .int) ∈ gTbl := gTbl_of (in_2 (List.mem_of_getElem? (i := 132) rfl)) rfl
theorem ml_X5_156 : Cond.methodLink RX5 156 yX5_cupBehind ∈ gTbl := gTbl_of (in_2 (List.mem_of_getElem? (i := 133) (by decide +kernel))) rfl
theorem im_X5_cupBehind : Cond.instanceMethod yX5_cupBehind ∈ gTbl := gTbl_of (in_2 (List.mem_of_getElem? (i := 135) (by decide +kernel))) rfl
theorem cd_X5_cupBehind : Cond.code yX5_cupBehind cX5_cupBehind 2 (some .int) ∈ gTbl := gTbl_of (in_2 (List.mem_of_getElem? (i := 136) rfl)) rfl
theorem ml_L_77 : Cond.methodLink RL 77 yX5_least ∈ gTbl := gTbl_of (in_2 (List.mem_of_getElem? (i := 137) (by decide +kernel))) rfl
theorem im_X5_least : Cond.instanceMethod yX5_least ∈ gTbl := gTbl_of (in_2 (List.mem_of_getElem? (i := 138) (by decide +kernel))) rfl
theorem sl_X5_least : Cond.selects RX5 yX5_least yX5_least ∈ gTbl := gTbl_of (in_2 (List.mem_of_getElem? (i := 139) (by decide +kernel))) rfl
theorem cd_X5_least : Cond.code yX5_least cX5_least 4 (some .int) ∈ gTbl := gTbl_of (in_2 (List.mem_of_getElem? (i := 140) rfl)) rfl
theorem ml_L_81 : Cond.methodLink RL 81 yX5_clearing ∈ gTbl := gTbl_of (in_2 (List.mem_of_getElem? (i := 141) (by decide +kernel))) rfl
theorem im_X5_clearing : Cond.instanceMethod yX5_clearing ∈ gTbl := gTbl_of (in_2 (List.mem_of_getElem? (i := 142) (by decide +kernel))) rfl
theorem sl_X5_clearing : Cond.selects RX5 yX5_clearing yX5_clearing ∈ gTbl := gTbl_of (in_2 (List.mem_of_getElem? (i := 143) (by decide +kernel))) rfl
theorem cd_X5_clearing : Cond.code yX5_clearing cX5_clearing 9 (some .int) ∈ gTbl := gTbl_of (in_2 (List.mem_of_getElem? (i := 144) rfl)) rfl
theorem ml_X5_159 : Cond.methodLink RX5 159 yX3_blockedBits ∈ gTbl := gTbl_of (in_2 (List.mem_of_getElem? (i := 145) (by decide +kernel))) rfl
theorem im_X3_blockedBits : Cond.instanceMethod yX3_blockedBits ∈ gTbl := gTbl_of (in_2 (List.mem_of_getElem? (i := 146) (by decide +kernel))) rfl
theorem sl_X3_blockedBits : Cond.selects RX3 yX3_blockedBits yX3_blockedBits ∈ gTbl := gTbl_of (in_2 (List.mem_of_getElem? (i := 147) (by decide +kernel))) rfl
theorem cd_X3_blockedBits : Cond.code yX3_blockedBits cX3_blockedBits 1 (some .int) ∈ gTbl := gTbl_of (in_2 (List.mem_of_getElem? (i := 148) rfl)) rfl
theorem ml_X5_162 : Cond.methodLink RX5 162 yX3_free ∈ gTbl := gTbl_of (in_2 (List.mem_of_getElem? (i := 149) (by decide +kernel))) rfl
theorem im_X3_free : Cond.instanceMethod yX3_free ∈ gTbl := gTbl_of (in_2 (List.mem_of_getElem? (i := 150) (by decide +kernel))) rfl
theorem sl_X3_free : Cond.selects RX3 yX3_free yX3_free ∈ gTbl := gTbl_of (in_2 (List.mem_of_getElem? (i := 151) (by decide +kernel))) rfl
theorem cd_X3_free : Cond.code yX3_free cX3_free 2 none ∈ gTbl := gTbl_of (in_2 (List.mem_of_getElem? (i := 152) rfl)) rfl
theorem ml_X5_165 : Cond.methodLink RX5 165 yJ6_bitCount_0f7a4 ∈ gTbl := gTbl_of (in_2 (List.mem_of_getElem? (i := 153) (by decide +kernel))) rfl
theorem sm_J6_bitCount_0f7a4 : Cond.static yJ6_bitCount_0f7a4 ∈ gTbl := gTbl_of (in_2 (List.mem_of_getElem? (i := 154) (by decide +kernel))) rfl
theorem cd_J6_bitCount_0f7a4 : Cond.code yJ6_bitCount_0f7a4 cJ6_bitCount_0f7a4 1 (some .int) ∈ gTbl := gTbl_of (in_2 (List.mem_of_getElem? (i := 155) rfl)) rfl
theorem ct_J6_265 : Cond.constant RJ6 265 (1431655765) ∈ gTbl := gTbl_of (in_2 (List.mem_of_getElem? (i := 156) (by decide +kernel))) rfl
theorem ct_J6_266 : Cond.constant RJ6 266 (858993459) ∈ gTbl := gTbl_of (in_2 (List.mem_of_getElem? (i := 157) (by decide +kernel))) rfl
theorem ct_J6_267 : Cond.constant RJ6 267 (252645135) ∈ gTbl := gTbl_of (in_2 (List.mem_of_getElem? (i := 158) (by decide +kernel))) rfl
theorem ml_L_85 : Cond.methodLink RL 85 yX5_stop ∈ gTbl := gTbl_of (in_2 (List.mem_of_getElem? (i := 159) (by decide +kernel))) rfl
theorem im_X5_stop : Cond.instanceMethod yX5_stop ∈ gTbl := gTbl_of (in_2 (List.mem_of_getElem? (i := 160) (by decide +kernel))) rfl
theorem sl_X5_stop : Cond.selects RX5 yX5_stop yX5_stop ∈ gTbl := gTbl_of (in_2 (List.mem_of_getElem? (i := 161) (by decide +kernel))) rfl
theorem cd_X5_stop : Cond.code yX5_stop cX5_stop 7 (some .int) ∈ gTbl := gTbl_of (in_2 (List.mem_of_getElem? (i := 162) rfl)) rfl
theorem ml_X5_170 : Cond.methodLink RX5 170 yX3_block ∈ gTbl := gTbl_of (in_2 (List.mem_of_getElem? (i := 163) (by decide +kernel))) rfl
theorem im_X3_block : Cond.instanceMethod yX3_block ∈ gTbl := gTbl_of (in_2 (List.mem_of_getElem? (i := 164) (by decide +kernel))) rfl
theorem sl_X3_block : Cond.selects RX3 yX3_block yX3_block ∈ gTbl := gTbl_of (in_2 (List.mem_of_getElem? (i := 165) (by decide +kernel))) rfl
theorem cd_X3_block : Cond.code yX3_block cX3_block 2 none ∈ gTbl := gTbl_of (in_2 (List.mem_of_getElem? (i := 166) rfl)) rfl
theorem ml_L_89 : Cond.methodLink RL 89 yX5_join ∈ gTbl := gTbl_of (in_2 (List.mem_of_getElem? (i := 167) (by decide +kernel))) rfl
theorem im_X5_join : Cond.instanceMethod yX5_join ∈ gTbl := gTbl_of (in_2 (List.mem_of_getElem? (i := 168) (by decide +kernel))) rfl
theorem sl_X5_join : Cond.selects RX5 yX5_join yX5_join ∈ gTbl := gTbl_of (in_2 (List.mem_of_getElem? (i := 169) (by decide +kernel))) rfl
theorem cd_X5_join : Cond.code yX5_join cX5_join 8 (some .int) ∈ gTbl := gTbl_of (in_2 (List.mem_of_getElem? (i := 170) rfl)) rfl
theorem ml_L_93 : Cond.methodLink RL 93 yX5_way ∈ gTbl := gTbl_of (in_2 (List.mem_of_getElem? (i := 171) (by decide +kernel))) rfl
theorem im_X5_way : Cond.instanceMethod yX5_way ∈ gTbl := gTbl_of (in_2 (List.mem_of_getElem? (i := 172) (by decide +kernel))) rfl
theorem sl_X5_way : Cond.selects RX5 yX5_way yX5_way ∈ gTbl := gTbl_of (in_2 (List.mem_of_getElem? (i := 173) (by decide +kernel))) rfl
theorem cd_X5_way : Cond.code yX5_way cX5_way 4 (some .int) ∈ gTbl := gTbl_of (in_2 (List.mem_of_getElem? (i := 174) rfl)) rfl
theorem ml_X5_173 : Cond.methodLink RX5 173 yX3_wayBits ∈ gTbl := gTbl_of (in_2 (List.mem_of_getElem? (i := 175) (by decide +kernel))) rfl
theorem im_X3_wayBits : Cond.instanceMethod yX3_wayBits ∈ gTbl := gTbl_of (in_2 (List.mem_of_getElem? (i := 176) (by decide +kernel))) rfl
theorem sl_X3_wayBits : Cond.selects RX3 yX3_wayBits yX3_wayBits ∈ gTbl := gTbl_of (in_2 (List.mem_of_getElem? (i := 177) (by decide +kernel))) rfl
theorem cd_X3_wayBits : Cond.code yX3_wayBits cX3_wayBits 5 (some .int) ∈ gTbl := gTbl_of (in_2 (List.mem_of_getElem? (i := 178) rfl)) rfl
theorem ml_L_97 : Cond.methodLink RL 97 yX5_whichBlocked ∈ gTbl := gTbl_of (in_2 (List.mem_of_getElem? (i := 179) (by decide +kernel))) rfl
theorem im_X5_whichBlocked : Cond.instanceMethod yX5_whichBlocked ∈ gTbl := gTbl_of (in_2 (List.mem_of_getElem? (i := 180) (by decide +kernel))) rfl
theorem sl_X5_whichBlocked : Cond.selects RX5 yX5_whichBlocked yX5_whichBlocked ∈ gTbl := gTbl_of (in_2 (List.mem_of_getElem? (i := 181) (by decide +kernel))) rfl
theorem cd_X5_whichBlocked : Cond.code yX5_whichBlocked cX5_whichBlocked 3 (some .int) ∈ gTbl := gTbl_of (in_2 (List.mem_of_getElem? (i := 182) rfl)) rfl
theorem ml_X5_176 : Cond.methodLink RX5 176 yX5_rowTellsCup ∈ gTbl := gTbl_of (in_2 (List.mem_of_getElem? (i := 183) (by decide +kernel))) rfl
theorem im_X5_rowTellsCup : Cond.instanceMethod yX5_rowTellsCup ∈ gTbl := gTbl_of (in_2 (List.mem_of_getElem? (i := 185) (by decide +kernel))) rfl
theorem cd_X5_rowTellsCup : Cond.code yX5_rowTellsCup cX5_rowTellsCup 2 (some .boolean) ∈ gTbl := gTbl_of (in_2 (List.mem_of_getElem? (i := 186) rfl)) rfl
theorem ml_X5_224 : Cond.methodLink RX5 224 yX2_size ∈ gTbl := gTbl_of (in_2 (List.mem_of_getElem? (i := 187) (by decide +kernel))) rfl
theorem im_X2_size : Cond.instanceMethod yX2_size ∈ gTbl := gTbl_of (in_2 (List.mem_of_getElem? (i := 188) (by decide +kernel))) rfl
theorem sl_X2_size : Cond.selects RX2 yX2_size yX2_size ∈ gTbl := gTbl_of (in_2 (List.mem_of_getElem? (i := 189) (by decide +kernel))) rfl
theorem cd_X2_size : Cond.code yX2_size cX2_size 1 (some .int) ∈ gTbl := gTbl_of (in_2 (List.mem_of_getElem? (i := 190) rfl)) rfl
theorem ml_X5_225 : Cond.methodLink RX5 225 yX2_at ∈ gTbl := gTbl_of (in_2 (List.mem_of_getElem? (i := 191) (by decide +kernel))) rfl
theorem im_X2_at : Cond.instanceMethod yX2_at ∈ gTbl := gTbl_of (in_2 (List.mem_of_getElem? (i := 192) (by decide +kernel))) rfl
theorem sl_X2_at : Cond.selects RX2 yX2_at yX2_at ∈ gTbl := gTbl_of (in_2 (List.mem_of_getElem? (i := 193) (by decide +kernel))) rfl
theorem cd_X2_at : Cond.code yX2_at cX2_at 2 (some .int) ∈ gTbl := gTbl_of (in_2 (List.mem_of_getElem? (i := 194) rfl)) rfl
theorem ml_L_101 : Cond.methodLink RL 101 yX5_wasPoured ∈ gTbl := gTbl_of (in_2 (List.mem_of_getElem? (i := 195) (by decide +kernel))) rfl
theorem im_X5_wasPoured : Cond.instanceMethod yX5_wasPoured ∈ gTbl := gTbl_of (in_2 (List.mem_of_getElem? (i := 196) (by decide +kernel))) rfl
theorem sl_X5_wasPoured : Cond.selects RX5 yX5_wasPoured yX5_wasPoured ∈ gTbl := gTbl_of (in_2 (List.mem_of_getElem? (i := 197) (by decide +kernel))) rfl
theorem cd_X5_wasPoured : Cond.code yX5_wasPoured cX5_wasPoured 7 (some .int) ∈ gTbl := gTbl_of (in_2 (List.mem_of_getElem? (i := 198) rfl)) rfl
theorem ml_L_105 : Cond.methodLink RL 105 yX5_whatKind ∈ gTbl := gTbl_of (in_2 (List.mem_of_getElem? (i := 199) (by decide +kernel))) rfl
theorem im_X5_whatKind : Cond.instanceMethod yX5_whatKind ∈ gTbl := gTbl_of (in_2 (List.mem_of_getElem? (i := 200) (by decide +kernel))) rfl
theorem sl_X5_whatKind : Cond.selects RX5 yX5_whatKind yX5_whatKind ∈ gTbl := gTbl_of (in_2 (List.mem_of_getElem? (i := 201) (by decide +kernel))) rfl
theorem cd_X5_whatKind : Cond.code yX5_whatKind cX5_whatKind 3 (some .int) ∈ gTbl := gTbl_of (in_2 (List.mem_of_getElem? (i := 202) rfl)) rfl
theorem ml_X5_179 : Cond.methodLink RX5 179 yX5_kindsTold ∈ gTbl := gTbl_of (in_2 (List.mem_of_getElem? (i := 203) (by decide +kernel))) rfl
theorem im_X5_kindsTold : Cond.instanceMethod yX5_kindsTold ∈ gTbl := gTbl_of (in_2 (List.mem_of_getElem? (i := 205) (by decide +kernel))) rfl
theorem cd_X5_kindsTold : Cond.code yX5_kindsTold cX5_kindsTold 4 (some .int) ∈ gTbl := gTbl_of (in_2 (List.mem_of_getElem? (i := 206) rfl)) rfl
theorem ml_X5_219 : Cond.methodLink RX5 219 yX3_remake ∈ gTbl := gTbl_of (in_2 (List.mem_of_getElem? (i := 207) (by decide +kernel))) rfl
theorem im_X3_remake : Cond.instanceMethod yX3_remake ∈ gTbl := gTbl_of (in_2 (List.mem_of_getElem? (i := 208) (by decide +kernel))) rfl
theorem sl_X3_remake : Cond.selects RX3 yX3_remake yX3_remake ∈ gTbl := gTbl_of (in_2 (List.mem_of_getElem? (i := 209) (by decide +kernel))) rfl
theorem cd_X3_remake : Cond.code yX3_remake cX3_remake 4 none ∈ gTbl := gTbl_of (in_2 (List.mem_of_getElem? (i := 210) rfl)) rfl
theorem ml_X5_182 : Cond.methodLink RX5 182 yX5_figuresTold ∈ gTbl := gTbl_of (in_2 (List.mem_of_getElem? (i := 211) (by decide +kernel))) rfl
theorem im_X5_figuresTold : Cond.instanceMethod yX5_figuresTold ∈ gTbl := gTbl_of (in_2 (List.mem_of_getElem? (i := 213) (by decide +kernel))) rfl
theorem cd_X5_figuresTold : Cond.code yX5_figuresTold cX5_figuresTold 4 (some .int) ∈ gTbl := gTbl_of (in_2 (List.mem_of_getElem? (i := 214) rfl)) rfl
theorem ml_L_109 : Cond.methodLink RL 109 yX5_two ∈ gTbl := gTbl_of (in_2 (List.mem_of_getElem? (i := 215) (by decide +kernel))) rfl
theorem im_X5_two : Cond.instanceMethod yX5_two ∈ gTbl := gTbl_of (in_2 (List.mem_of_getElem? (i := 216) (by decide +kernel))) rfl
theorem sl_X5_two : Cond.selects RX5 yX5_two yX5_two ∈ gTbl := gTbl_of (in_2 (List.mem_of_getElem? (i := 217) (by decide +kernel))) rfl
theorem cd_X5_two : Cond.code yX5_two cX5_two 7 (some .int) ∈ gTbl := gTbl_of (in_2 (List.mem_of_getElem? (i := 218) rfl)) rfl
theorem ml_X5_185 : Cond.methodLink RX5 185 yX5_isContent ∈ gTbl := gTbl_of (in_2 (List.mem_of_getElem? (i := 219) (by decide +kernel))) rfl
theorem im_X5_isContent : Cond.instanceMethod yX5_isContent ∈ gTbl := gTbl_of (in_2 (List.mem_of_getElem? (i := 221) (by decide +kernel))) rfl
theorem cd_X5_isContent : Cond.code yX5_isContent cX5_isContent 7 (some .boolean) ∈ gTbl := gTbl_of (in_2 (List.mem_of_getElem? (i := 222) rfl)) rfl
theorem ml_X5_257 : Cond.methodLink RX5 257 yX5_gain ∈ gTbl := gTbl_of (in_2 (List.mem_of_getElem? (i := 223) (by decide +kernel))) rfl
theorem im_X5_gain : Cond.instanceMethod yX5_gain ∈ gTbl := gTbl_of (in_2 (List.mem_of_getElem? (i := 225) (by decide +kernel))) rfl
theorem cd_X5_gain : Cond.code yX5_gain cX5_gain 6 (some .int) ∈ gTbl := gTbl_of (in_2 (List.mem_of_getElem? (i := 226) rfl)) rfl
theorem ml_L_113 : Cond.methodLink RL 113 yX5_blocked ∈ gTbl := gTbl_of (in_2 (List.mem_of_getElem? (i := 227) (by decide +kernel))) rfl
theorem im_X5_blocked : Cond.instanceMethod yX5_blocked ∈ gTbl := gTbl_of (in_2 (List.mem_of_getElem? (i := 228) (by decide +kernel))) rfl
theorem sl_X5_blocked : Cond.selects RX5 yX5_blocked yX5_blocked ∈ gTbl := gTbl_of (in_2 (List.mem_of_getElem? (i := 229) (by decide +kernel))) rfl
theorem cd_X5_blocked : Cond.code yX5_blocked cX5_blocked 14 (some .long) ∈ gTbl := gTbl_of (in_2 (List.mem_of_getElem? (i := 230) rfl)) rfl
theorem ml_X5_189 : Cond.methodLink RX5 189 yX5_refuseLong ∈ gTbl := gTbl_of (in_2 (List.mem_of_getElem? (i := 231) (by decide +kernel))) rfl
theorem im_X5_refuseLong : Cond.instanceMethod yX5_refuseLong ∈ gTbl := gTbl_of (in_2 (List.mem_of_getElem? (i := 233) (by decide +kernel))) rfl
theorem cd_X5_refuseLong : Cond.code yX5_refuseLong cX5_refuseLong 2 (some .long) ∈ gTbl := gTbl_of (in_2 (List.mem_of_getElem? (i := 234) rfl)) rfl
theorem ct_X5_245 : Cond.constantLong RX5 245 (4000000000000000000) ∈ gTbl := gTbl_of (in_2 (List.mem_of_getElem? (i := 235) (by decide +kernel))) rfl
theorem ml_X5_193 : Cond.methodLink RX5 193 yX5_partOf ∈ gTbl := gTbl_of (in_2 (List.mem_of_getElem? (i := 236) (by decide +kernel))) rfl
theorem sm_X5_partOf : Cond.static yX5_partOf ∈ gTbl := gTbl_of (in_2 (List.mem_of_getElem? (i := 237) (by decide +kernel))) rfl
theorem cd_X5_partOf : Cond.code yX5_partOf cX5_partOf 9 (some .long) ∈ gTbl := gTbl_of (in_2 (List.mem_of_getElem? (i := 238) rfl)) rfl
theorem ml_X5_279 : Cond.methodLink RX5 279 yX5_commonDivisor ∈ gTbl := gTbl_of (in_2 (List.mem_of_getElem? (i := 239) (by decide +kernel))) rfl
theorem sm_X5_commonDivisor : Cond.static yX5_commonDivisor ∈ gTbl := gTbl_of (in_3 (List.mem_of_getElem? (i := 0) (by decide +kernel))) rfl
theorem cd_X5_commonDivisor : Cond.code yX5_commonDivisor cX5_commonDivisor 11 (some .long) ∈ gTbl := gTbl_of (in_3 (List.mem_of_getElem? (i := 1) rfl)) rfl
theorem ml_L_118 : Cond.methodLink RL 118 yX5_shares ∈ gTbl := gTbl_of (in_3 (List.mem_of_getElem? (i := 2) (by decide +kernel))) rfl
theorem im_X5_shares : Cond.instanceMethod yX5_shares ∈ gTbl := gTbl_of (in_3 (List.mem_of_getElem? (i := 3) (by decide +kernel))) rfl
theorem sl_X5_shares : Cond.selects RX5 yX5_shares yX5_shares ∈ gTbl := gTbl_of (in_3 (List.mem_of_getElem? (i := 4) (by decide +kernel))) rfl
theorem cd_X5_shares : Cond.code yX5_shares cX5_shares 4 (some .int) ∈ gTbl := gTbl_of (in_3 (List.mem_of_getElem? (i := 5) rfl)) rfl
theorem ml_L_122 : Cond.methodLink RL 122 yX5_fullest ∈ gTbl := gTbl_of (in_3 (List.mem_of_getElem? (i := 6) (by decide +kernel))) rfl
theorem im_X5_fullest : Cond.instanceMethod yX5_fullest ∈ gTbl := gTbl_of (in_3 (List.mem_of_getElem? (i := 7) (by decide +kernel))) rfl
theorem sl_X5_fullest : Cond.selects RX5 yX5_fullest yX5_fullest ∈ gTbl := gTbl_of (in_3 (List.mem_of_getElem? (i := 8) (by decide +kernel))) rfl
theorem cd_X5_fullest : Cond.code yX5_fullest cX5_fullest 2 (some .int) ∈ gTbl := gTbl_of (in_3 (List.mem_of_getElem? (i := 9) rfl)) rfl
theorem ml_X5_197 : Cond.methodLink RX5 197 yX5_houseHoldingMost ∈ gTbl := gTbl_of (in_3 (List.mem_of_getElem? (i := 10) (by decide +kernel))) rfl
theorem im_X5_houseHoldingMost : Cond.instanceMethod yX5_houseHoldingMost ∈ gTbl := gTbl_of (in_3 (List.mem_of_getElem? (i := 12) (by decide +kernel))) rfl
theorem cd_X5_houseHoldingMost : Cond.code yX5_houseHoldingMost cX5_houseHoldingMost 4 (some .int) ∈ gTbl := gTbl_of (in_3 (List.mem_of_getElem? (i := 13) rfl)) rfl
theorem ml_X5_200 : Cond.methodLink RX5 200 yX5_housesAtCup ∈ gTbl := gTbl_of (in_3 (List.mem_of_getElem? (i := 14) (by decide +kernel))) rfl
theorem im_X5_housesAtCup : Cond.instanceMethod yX5_housesAtCup ∈ gTbl := gTbl_of (in_3 (List.mem_of_getElem? (i := 16) (by decide +kernel))) rfl
theorem cd_X5_housesAtCup : Cond.code yX5_housesAtCup cX5_housesAtCup 3 (some .int) ∈ gTbl := gTbl_of (in_3 (List.mem_of_getElem? (i := 17) rfl)) rfl
theorem ml_X5_203 : Cond.methodLink RX5 203 yX3_allBits ∈ gTbl := gTbl_of (in_3 (List.mem_of_getElem? (i := 18) (by decide +kernel))) rfl
theorem im_X3_allBits : Cond.instanceMethod yX3_allBits ∈ gTbl := gTbl_of (in_3 (List.mem_of_getElem? (i := 19) (by decide +kernel))) rfl
theorem sl_X3_allBits : Cond.selects RX3 yX3_allBits yX3_allBits ∈ gTbl := gTbl_of (in_3 (List.mem_of_getElem? (i := 20) (by decide +kernel))) rfl
theorem cd_X3_allBits : Cond.code yX3_allBits cX3_allBits 1 (some .int) ∈ gTbl := gTbl_of (in_3 (List.mem_of_getElem? (i := 21) rfl)) rfl
theorem ml_X5_206 : Cond.methodLink RX5 206 yX3_wetBits ∈ gTbl := gTbl_of (in_3 (List.mem_of_getElem? (i := 22) (by decide +kernel))) rfl
theorem im_X3_wetBits : Cond.instanceMethod yX3_wetBits ∈ gTbl := gTbl_of (in_3 (List.mem_of_getElem? (i := 23) (by decide +kernel))) rfl
theorem sl_X3_wetBits : Cond.selects RX3 yX3_wetBits yX3_wetBits ∈ gTbl := gTbl_of (in_3 (List.mem_of_getElem? (i := 24) (by decide +kernel))) rfl
theorem cd_X3_wetBits : Cond.code yX3_wetBits cX3_wetBits 1 (some .int) ∈ gTbl := gTbl_of (in_3 (List.mem_of_getElem? (i := 25) rfl)) rfl
theorem ml_X5_209 : Cond.methodLink RX5 209 yX5_longestWay ∈ gTbl := gTbl_of (in_3 (List.mem_of_getElem? (i := 26) (by decide +kernel))) rfl
theorem im_X5_longestWay : Cond.instanceMethod yX5_longestWay ∈ gTbl := gTbl_of (in_3 (List.mem_of_getElem? (i := 28) (by decide +kernel))) rfl
theorem cd_X5_longestWay : Cond.code yX5_longestWay cX5_longestWay 3 (some .int) ∈ gTbl := gTbl_of (in_3 (List.mem_of_getElem? (i := 29) rfl)) rfl
theorem ml_X5_261 : Cond.methodLink RX5 261 Lib.Math.max.name ∈ gTbl := gTbl_of (in_3 (List.mem_of_getElem? (i := 30) (by decide +kernel))) rfl
theorem sm_J9_max_7cf53 : Cond.static Lib.Math.max.name ∈ gTbl := gTbl_of (in_3 (List.mem_of_getElem? (i := 31) (by decide +kernel))) rfl
theorem cd_max : Cond.code Lib.Math.max.name Lib.Math.max.code 2 (some .int) ∈ gTbl := gTbl_of (in_3 (List.mem_of_getElem? (i := 32) rfl)) rfl
theorem ml_X5_212 : Cond.methodLink RX5 212 yX5_longestStill ∈ gTbl := gTbl_of (in_3 (List.mem_of_getElem? (i := 33) (by decide +kernel))) rfl
theorem im_X5_longestStill : Cond.instanceMethod yX5_longestStill ∈ gTbl := gTbl_of (in_3 (List.mem_of_getElem? (i := 35) (by decide +kernel))) rfl
theorem cd_X5_longestStill : Cond.code yX5_longestStill cX5_longestStill 4 (some .int) ∈ gTbl := gTbl_of (in_3 (List.mem_of_getElem? (i := 36) rfl)) rfl
theorem ml_X5_267 : Cond.methodLink RX5 267 yX3_hasDripped ∈ gTbl := gTbl_of (in_3 (List.mem_of_getElem? (i := 37) (by decide +kernel))) rfl
theorem im_X3_hasDripped : Cond.instanceMethod yX3_hasDripped ∈ gTbl := gTbl_of (in_3 (List.mem_of_getElem? (i := 38) (by decide +kernel))) rfl
theorem sl_X3_hasDripped : Cond.selects RX3 yX3_hasDripped yX3_hasDripped ∈ gTbl := gTbl_of (in_3 (List.mem_of_getElem? (i := 39) (by decide +kernel))) rfl
theorem cd_X3_hasDripped : Cond.code yX3_hasDripped cX3_hasDripped 1 (some .boolean) ∈ gTbl := gTbl_of (in_3 (List.mem_of_getElem? (i := 40) rfl)) rfl
theorem ml_X5_215 : Cond.methodLink RX5 215 yX5_twins ∈ gTbl := gTbl_of (in_3 (List.mem_of_getElem? (i := 41) (by decide +kernel))) rfl
theorem im_X5_twins : Cond.instanceMethod yX5_twins ∈ gTbl := gTbl_of (in_3 (List.mem_of_getElem? (i := 43) (by decide +kernel))) rfl
theorem cd_X5_twins : Cond.code yX5_twins cX5_twins 4 (some .int) ∈ gTbl := gTbl_of (in_3 (List.mem_of_getElem? (i := 44) rfl)) rfl
theorem ml_L_126 : Cond.methodLink RL 126 yX5_into ∈ gTbl := gTbl_of (in_3 (List.mem_of_getElem? (i := 45) (by decide +kernel))) rfl
theorem im_X5_into : Cond.instanceMethod yX5_into ∈ gTbl := gTbl_of (in_3 (List.mem_of_getElem? (i := 46) (by decide +kernel))) rfl
theorem sl_X5_into : Cond.selects RX5 yX5_into yX5_into ∈ gTbl := gTbl_of (in_3 (List.mem_of_getElem? (i := 47) (by decide +kernel))) rfl
theorem cd_X5_into : Cond.code yX5_into cX5_into 4 (some .int) ∈ gTbl := gTbl_of (in_3 (List.mem_of_getElem? (i := 48) rfl)) rfl
theorem ml_L_130 : Cond.methodLink RL 130 yX5_mean ∈ gTbl := gTbl_of (in_3 (List.mem_of_getElem? (i := 49) (by decide +kernel))) rfl
theorem im_X5_mean : Cond.instanceMethod yX5_mean ∈ gTbl := gTbl_of (in_3 (List.mem_of_getElem? (i := 50) (by decide +kernel))) rfl
theorem sl_X5_mean : Cond.selects RX5 yX5_mean yX5_mean ∈ gTbl := gTbl_of (in_3 (List.mem_of_getElem? (i := 51) (by decide +kernel))) rfl
theorem cd_X5_mean : Cond.code yX5_mean cX5_mean 2 (some .long) ∈ gTbl := gTbl_of (in_3 (List.mem_of_getElem? (i := 52) rfl)) rfl
theorem ml_L_135 : Cond.methodLink RL 135 yX5_strong ∈ gTbl := gTbl_of (in_3 (List.mem_of_getElem? (i := 53) (by decide +kernel))) rfl
theorem im_X5_strong : Cond.instanceMethod yX5_strong ∈ gTbl := gTbl_of (in_3 (List.mem_of_getElem? (i := 54) (by decide +kernel))) rfl
theorem sl_X5_strong : Cond.selects RX5 yX5_strong yX5_strong ∈ gTbl := gTbl_of (in_3 (List.mem_of_getElem? (i := 55) (by decide +kernel))) rfl
theorem cd_X5_strong : Cond.code yX5_strong cX5_strong 4 (some .int) ∈ gTbl := gTbl_of (in_3 (List.mem_of_getElem? (i := 56) rfl)) rfl
theorem ct_X5_218 : Cond.constant RX5 218 (1000000000) ∈ gTbl := gTbl_of (in_3 (List.mem_of_getElem? (i := 57) (by decide +kernel))) rfl
theorem ml_L_139 : Cond.methodLink RL 139 yX5_kinds ∈ gTbl := gTbl_of (in_3 (List.mem_of_getElem? (i := 58) (by decide +kernel))) rfl
theorem im_X5_kinds : Cond.instanceMethod yX5_kinds ∈ gTbl := gTbl_of (in_3 (List.mem_of_getElem? (i := 59) (by decide +kernel))) rfl
theorem sl_X5_kinds : Cond.selects RX5 yX5_kinds yX5_kinds ∈ gTbl := gTbl_of (in_3 (List.mem_of_getElem? (i := 60) (by decide +kernel))) rfl
theorem cd_X5_kinds : Cond.code yX5_kinds cX5_kinds 4 (some .int) ∈ gTbl := gTbl_of (in_3 (List.mem_of_getElem? (i := 61) rfl)) rfl
theorem ml_L_143 : Cond.methodLink RL 143 yX5_turn ∈ gTbl := gTbl_of (in_3 (List.mem_of_getElem? (i := 62) (by decide +kernel))) rfl
theorem im_X5_turn : Cond.instanceMethod yX5_turn ∈ gTbl := gTbl_of (in_3 (List.mem_of_getElem? (i := 63) (by decide +kernel))) rfl
theorem sl_X5_turn : Cond.selects RX5 yX5_turn yX5_turn ∈ gTbl := gTbl_of (in_3 (List.mem_of_getElem? (i := 64) (by decide +kernel))) rfl
theorem cd_X5_turn : Cond.code yX5_turn cX5_turn 8 (some .int) ∈ gTbl := gTbl_of (in_3 (List.mem_of_getElem? (i := 65) rfl)) rfl
theorem ml_L_147 : Cond.methodLink RL 147 yX5_row ∈ gTbl := gTbl_of (in_3 (List.mem_of_getElem? (i := 66) (by decide +kernel))) rfl
theorem im_X5_row : Cond.instanceMethod yX5_row ∈ gTbl := gTbl_of (in_3 (List.mem_of_getElem? (i := 67) (by decide +kernel))) rfl
theorem sl_X5_row : Cond.selects RX5 yX5_row yX5_row ∈ gTbl := gTbl_of (in_3 (List.mem_of_getElem? (i := 68) (by decide +kernel))) rfl
theorem cd_X5_row : Cond.code yX5_row cX5_row 3 (some .int) ∈ gTbl := gTbl_of (in_3 (List.mem_of_getElem? (i := 69) rfl)) rfl
theorem ml_X5_223 : Cond.methodLink RX5 223 yX2_add ∈ gTbl := gTbl_of (in_3 (List.mem_of_getElem? (i := 70) (by decide +kernel))) rfl
theorem im_X2_add : Cond.instanceMethod yX2_add ∈ gTbl := gTbl_of (in_3 (List.mem_of_getElem? (i := 71) (by decide +kernel))) rfl
theorem sl_X2_add : Cond.selects RX2 yX2_add yX2_add ∈ gTbl := gTbl_of (in_3 (List.mem_of_getElem? (i := 72) (by decide +kernel))) rfl
theorem cd_X2_add : Cond.code yX2_add cX2_add 2 (some .boolean) ∈ gTbl := gTbl_of (in_3 (List.mem_of_getElem? (i := 73) rfl)) rfl
theorem ml_L_151 : Cond.methodLink RL 151 yX5_judge ∈ gTbl := gTbl_of (in_3 (List.mem_of_getElem? (i := 74) (by decide +kernel))) rfl
theorem im_X5_judge : Cond.instanceMethod yX5_judge ∈ gTbl := gTbl_of (in_3 (List.mem_of_getElem? (i := 75) (by decide +kernel))) rfl
theorem sl_X5_judge : Cond.selects RX5 yX5_judge yX5_judge ∈ gTbl := gTbl_of (in_3 (List.mem_of_getElem? (i := 76) (by decide +kernel))) rfl
theorem cd_X5_judge : Cond.code yX5_judge cX5_judge 3 (some .int) ∈ gTbl := gTbl_of (in_3 (List.mem_of_getElem? (i := 77) rfl)) rfl
theorem ml_X5_228 : Cond.methodLink RX5 228 yX2_drop ∈ gTbl := gTbl_of (in_3 (List.mem_of_getElem? (i := 78) (by decide +kernel))) rfl
theorem im_X2_drop : Cond.instanceMethod yX2_drop ∈ gTbl := gTbl_of (in_3 (List.mem_of_getElem? (i := 79) (by decide +kernel))) rfl
theorem sl_X2_drop : Cond.selects RX2 yX2_drop yX2_drop ∈ gTbl := gTbl_of (in_3 (List.mem_of_getElem? (i := 80) (by decide +kernel))) rfl
theorem cd_X2_drop : Cond.code yX2_drop cX2_drop 1 none ∈ gTbl := gTbl_of (in_3 (List.mem_of_getElem? (i := 81) rfl)) rfl
theorem ml_L_155 : Cond.methodLink RL 155 yX5_clear ∈ gTbl := gTbl_of (in_3 (List.mem_of_getElem? (i := 82) (by decide +kernel))) rfl
theorem im_X5_clear : Cond.instanceMethod yX5_clear ∈ gTbl := gTbl_of (in_3 (List.mem_of_getElem? (i := 83) (by decide +kernel))) rfl
theorem sl_X5_clear : Cond.selects RX5 yX5_clear yX5_clear ∈ gTbl := gTbl_of (in_3 (List.mem_of_getElem? (i := 84) (by decide +kernel))) rfl
theorem cd_X5_clear : Cond.code yX5_clear cX5_clear 2 (some .int) ∈ gTbl := gTbl_of (in_3 (List.mem_of_getElem? (i := 85) rfl)) rfl
theorem ml_L_159 : Cond.methodLink RL 159 yX5_lots ∈ gTbl := gTbl_of (in_3 (List.mem_of_getElem? (i := 86) (by decide +kernel))) rfl
theorem im_X5_lots : Cond.instanceMethod yX5_lots ∈ gTbl := gTbl_of (in_3 (List.mem_of_getElem? (i := 87) (by decide +kernel))) rfl
theorem sl_X5_lots : Cond.selects RX5 yX5_lots yX5_lots ∈ gTbl := gTbl_of (in_3 (List.mem_of_getElem? (i := 88) (by decide +kernel))) rfl
theorem cd_X5_lots : Cond.code yX5_lots cX5_lots 8 (some .int) ∈ gTbl := gTbl_of (in_3 (List.mem_of_getElem? (i := 89) rfl)) rfl
theorem ml_X5_229 : Cond.methodLink RX5 229 yX5_liveWeek ∈ gTbl := gTbl_of (in_3 (List.mem_of_getElem? (i := 90) (by decide +kernel))) rfl
theorem im_X5_liveWeek : Cond.instanceMethod yX5_liveWeek ∈ gTbl := gTbl_of (in_3 (List.mem_of_getElem? (i := 92) (by decide +kernel))) rfl
theorem cd_X5_liveWeek : Cond.code yX5_liveWeek cX5_liveWeek 5 (some .int) ∈ gTbl := gTbl_of (in_3 (List.mem_of_getElem? (i := 93) rfl)) rfl
theorem ml_X5_270 : Cond.methodLink RX5 270 yX5_nextSeed ∈ gTbl := gTbl_of (in_3 (List.mem_of_getElem? (i := 94) (by decide +kernel))) rfl
theorem sm_X5_nextSeed : Cond.static yX5_nextSeed ∈ gTbl := gTbl_of (in_3 (List.mem_of_getElem? (i := 95) (by decide +kernel))) rfl
theorem cd_X5_nextSeed : Cond.code yX5_nextSeed cX5_nextSeed 1 (some .int) ∈ gTbl := gTbl_of (in_3 (List.mem_of_getElem? (i := 96) rfl)) rfl
theorem ct_X5_276 : Cond.constant RX5 276 (1103515245) ∈ gTbl := gTbl_of (in_3 (List.mem_of_getElem? (i := 97) (by decide +kernel))) rfl
theorem ml_X5_273 : Cond.methodLink RX5 273 yX5_drawn ∈ gTbl := gTbl_of (in_3 (List.mem_of_getElem? (i := 98) (by decide +kernel))) rfl
theorem sm_X5_drawn : Cond.static yX5_drawn ∈ gTbl := gTbl_of (in_3 (List.mem_of_getElem? (i := 99) (by decide +kernel))) rfl
theorem cd_X5_drawn : Cond.code yX5_drawn cX5_drawn 2 (some .int) ∈ gTbl := gTbl_of (in_3 (List.mem_of_getElem? (i := 100) rfl)) rfl
theorem ct_X5_277 : Cond.constant RX5 277 (2147483647) ∈ gTbl := gTbl_of (in_3 (List.mem_of_getElem? (i := 101) (by decide +kernel))) rfl
theorem ct_X5_278 : Cond.constant RX5 278 (65536) ∈ gTbl := gTbl_of (in_3 (List.mem_of_getElem? (i := 102) (by decide +kernel))) rfl
theorem ml_L_163 : Cond.methodLink RL 163 yX5_image ∈ gTbl := gTbl_of (in_3 (List.mem_of_getElem? (i := 103) (by decide +kernel))) rfl
theorem im_X5_image : Cond.instanceMethod yX5_image ∈ gTbl := gTbl_of (in_3 (List.mem_of_getElem? (i := 104) (by decide +kernel))) rfl
theorem sl_X5_image : Cond.selects RX5 yX5_image yX5_image ∈ gTbl := gTbl_of (in_3 (List.mem_of_getElem? (i := 105) (by decide +kernel))) rfl
theorem cd_X5_image : Cond.code yX5_image cX5_image 1 (some .int) ∈ gTbl := gTbl_of (in_3 (List.mem_of_getElem? (i := 106) rfl)) rfl
theorem ml_X5_239 : Cond.methodLink RX5 239 yX3_hour ∈ gTbl := gTbl_of (in_3 (List.mem_of_getElem? (i := 107) (by decide +kernel))) rfl
theorem im_X3_hour : Cond.instanceMethod yX3_hour ∈ gTbl := gTbl_of (in_3 (List.mem_of_getElem? (i := 108) (by decide +kernel))) rfl
theorem sl_X3_hour : Cond.selects RX3 yX3_hour yX3_hour ∈ gTbl := gTbl_of (in_3 (List.mem_of_getElem? (i := 109) (by decide +kernel))) rfl
theorem cd_X3_hour : Cond.code yX3_hour cX3_hour 1 (some .int) ∈ gTbl := gTbl_of (in_3 (List.mem_of_getElem? (i := 110) rfl)) rfl
theorem ml_L_167 : Cond.methodLink RL 167 yX5_restore ∈ gTbl := gTbl_of (in_3 (List.mem_of_getElem? (i := 111) (by decide +kernel))) rfl
theorem im_X5_restore : Cond.instanceMethod yX5_restore ∈ gTbl := gTbl_of (in_3 (List.mem_of_getElem? (i := 112) (by decide +kernel))) rfl
theorem sl_X5_restore : Cond.selects RX5 yX5_restore yX5_restore ∈ gTbl := gTbl_of (in_3 (List.mem_of_getElem? (i := 113) (by decide +kernel))) rfl
theorem cd_X5_restore : Cond.code yX5_restore cX5_restore 1 (some .int) ∈ gTbl := gTbl_of (in_3 (List.mem_of_getElem? (i := 114) rfl)) rfl
theorem ml_L_171 : Cond.methodLink RL 171 yX5_count ∈ gTbl := gTbl_of (in_3 (List.mem_of_getElem? (i := 115) (by decide +kernel))) rfl
theorem im_X5_count : Cond.instanceMethod yX5_count ∈ gTbl := gTbl_of (in_3 (List.mem_of_getElem? (i := 116) (by decide +kernel))) rfl
theorem sl_X5_count : Cond.selects RX5 yX5_count yX5_count ∈ gTbl := gTbl_of (in_3 (List.mem_of_getElem? (i := 117) (by decide +kernel))) rfl
theorem cd_X5_count : Cond.code yX5_count cX5_count 2 (some .int) ∈ gTbl := gTbl_of (in_3 (List.mem_of_getElem? (i := 118) rfl)) rfl
theorem ml_X5_242 : Cond.methodLink RX5 242 yX5_refusalsCounted ∈ gTbl := gTbl_of (in_3 (List.mem_of_getElem? (i := 119) (by decide +kernel))) rfl
theorem im_X5_refusalsCounted : Cond.instanceMethod yX5_refusalsCounted ∈ gTbl := gTbl_of (in_3 (List.mem_of_getElem? (i := 121) (by decide +kernel))) rfl
theorem cd_X5_refusalsCounted : Cond.code yX5_refusalsCounted cX5_refusalsCounted 2 (some .int) ∈ gTbl := gTbl_of (in_3 (List.mem_of_getElem? (i := 122) rfl)) rfl
theorem cl_L_10 : Cond.classLink RL 10 RX6 ∈ gTbl := gTbl_of (in_3 (List.mem_of_getElem? (i := 123) (by decide +kernel))) rfl
theorem ia_X6 : Cond.instantiable RX6 34 ∈ gTbl := gTbl_of (in_3 (List.mem_of_getElem? (i := 124) (by decide +kernel))) rfl
theorem ml_L_12 : Cond.methodLink RL 12 yX6_init ∈ gTbl := gTbl_of (in_3 (List.mem_of_getElem? (i := 125) (by decide +kernel))) rfl
theorem im_X6_init : Cond.instanceMethod yX6_init ∈ gTbl := gTbl_of (in_3 (List.mem_of_getElem? (i := 126) (by decide +kernel))) rfl
theorem cd_X6_init : Cond.code yX6_init cX6_init 1 none ∈ gTbl := gTbl_of (in_3 (List.mem_of_getElem? (i := 127) rfl)) rfl
theorem ml_X6_1 : Cond.methodLink RX6 1 objectInit ∈ gTbl := gTbl_of (in_3 (List.mem_of_getElem? (i := 128) (by decide +kernel))) rfl
theorem fl_X6_62 : Cond.fieldLink RX6 62 "PercolatedModel" "many" "I" ∈ gTbl := gTbl_of (in_3 (List.mem_of_getElem? (i := 129) (by decide +kernel))) rfl
theorem fl_X6_7 : Cond.fieldLink RX6 7 "PercolatedModel" "kinds0" "[I" ∈ gTbl := gTbl_of (in_3 (List.mem_of_getElem? (i := 130) (by decide +kernel))) rfl
theorem fl_X6_13 : Cond.fieldLink RX6 13 "PercolatedModel" "figures" "[I" ∈ gTbl := gTbl_of (in_3 (List.mem_of_getElem? (i := 131) (by decide +kernel))) rfl
theorem fl_X6_16 : Cond.fieldLink RX6 16 "PercolatedModel" "holds" "[I" ∈ gTbl := gTbl_of (in_3 (List.mem_of_getElem? (i := 132) (by decide +kernel))) rfl
theorem fl_X6_19 : Cond.fieldLink RX6 19 "PercolatedModel" "nexts" "[I" ∈ gTbl := gTbl_of (in_3 (List.mem_of_getElem? (i := 133) (by decide +kernel))) rfl
theorem fl_X6_83 : Cond.fieldLink RX6 83 "PercolatedModel" "shut" "I" ∈ gTbl := gTbl_of (in_3 (List.mem_of_getElem? (i := 134) (by decide +kernel))) rfl
theorem fl_X6_73 : Cond.fieldLink RX6 73 "PercolatedModel" "wet" "I" ∈ gTbl := gTbl_of (in_3 (List.mem_of_getElem? (i := 135) (by decide +kernel))) rfl
theorem fl_X6_101 : Cond.fieldLink RX6 101 "PercolatedModel" "cup" "I" ∈ gTbl := gTbl_of (in_3 (List.mem_of_getElem? (i := 136) (by decide +kernel))) rfl
theorem fl_X6_76 : Cond.fieldLink RX6 76 "PercolatedModel" "today" "I" ∈ gTbl := gTbl_of (in_3 (List.mem_of_getElem? (i := 137) (by decide +kernel))) rfl
theorem fl_X6_58 : Cond.fieldLink RX6 58 "PercolatedModel" "thrown" "I" ∈ gTbl := gTbl_of (in_3 (List.mem_of_getElem? (i := 138) (by decide +kernel))) rfl
theorem fl_X6_22 : Cond.fieldLink RX6 22 "PercolatedModel" "refusals" "[I" ∈ gTbl := gTbl_of (in_3 (List.mem_of_getElem? (i := 139) (by decide +kernel))) rfl
theorem fl_X6_79 : Cond.fieldLink RX6 79 "PercolatedModel" "isDripping" "Z" ∈ gTbl := gTbl_of (in_3 (List.mem_of_getElem? (i := 140) (by decide +kernel))) rfl
theorem fl_X6_25 : Cond.fieldLink RX6 25 "PercolatedModel" "letters" "[I" ∈ gTbl := gTbl_of (in_3 (List.mem_of_getElem? (i := 141) (by decide +kernel))) rfl
theorem fl_X6_111 : Cond.fieldLink RX6 111 "PercolatedModel" "letterMany" "I" ∈ gTbl := gTbl_of (in_3 (List.mem_of_getElem? (i := 142) (by decide +kernel))) rfl
theorem fl_X6_114 : Cond.fieldLink RX6 114 "PercolatedModel" "at0" "I" ∈ gTbl := gTbl_of (in_3 (List.mem_of_getElem? (i := 143) (by decide +kernel))) rfl
theorem fl_X6_117 : Cond.fieldLink RX6 117 "PercolatedModel" "isBad" "Z" ∈ gTbl := gTbl_of (in_3 (List.mem_of_getElem? (i := 144) (by decide +kernel))) rfl
theorem fl_X6_131 : Cond.fieldLink RX6 131 "PercolatedModel" "statements" "I" ∈ gTbl := gTbl_of (in_3 (List.mem_of_getElem? (i := 145) (by decide +kernel))) rfl
theorem fl_X6_28 : Cond.fieldLink RX6 28 "PercolatedModel" "placeIn" "[I" ∈ gTbl := gTbl_of (in_3 (List.mem_of_getElem? (i := 146) (by decide +kernel))) rfl
theorem fl_X6_31 : Cond.fieldLink RX6 31 "PercolatedModel" "letterOf" "[I" ∈ gTbl := gTbl_of (in_3 (List.mem_of_getElem? (i := 147) (by decide +kernel))) rfl
theorem fl_X6_34 : Cond.fieldLink RX6 34 "PercolatedModel" "numbers" "[I" ∈ gTbl := gTbl_of (in_3 (List.mem_of_getElem? (i := 148) (by decide +kernel))) rfl
theorem fl_X6_37 : Cond.fieldLink RX6 37 "PercolatedModel" "kept" "[I" ∈ gTbl := gTbl_of (in_3 (List.mem_of_getElem? (i := 149) (by decide +kernel))) rfl
theorem fl_X6_40 : Cond.fieldLink RX6 40 "PercolatedModel" "imaged" "[I" ∈ gTbl := gTbl_of (in_3 (List.mem_of_getElem? (i := 150) (by decide +kernel))) rfl
theorem fl_X6_187 : Cond.fieldLink RX6 187 "PercolatedModel" "hasImage" "Z" ∈ gTbl := gTbl_of (in_3 (List.mem_of_getElem? (i := 151) (by decide +kernel))) rfl
theorem fl_X6_177 : Cond.fieldLink RX6 177 "PercolatedModel" "place0" "I" ∈ gTbl := gTbl_of (in_3 (List.mem_of_getElem? (i := 152) (by decide +kernel))) rfl
theorem fl_X6_171 : Cond.fieldLink RX6 171 "PercolatedModel" "isTaking" "Z" ∈ gTbl := gTbl_of (in_3 (List.mem_of_getElem? (i := 153) (by decide +kernel))) rfl
theorem fl_X6_174 : Cond.fieldLink RX6 174 "PercolatedModel" "keptIn" "[I" ∈ gTbl := gTbl_of (in_3 (List.mem_of_getElem? (i := 154) (by decide +kernel))) rfl
theorem fl_X6_43 : Cond.fieldLink RX6 43 "PercolatedModel" "turns0" "[I" ∈ gTbl := gTbl_of (in_3 (List.mem_of_getElem? (i := 155) (by decide +kernel))) rfl
theorem fl_X6_46 : Cond.fieldLink RX6 46 "PercolatedModel" "turnOf" "[I" ∈ gTbl := gTbl_of (in_3 (List.mem_of_getElem? (i := 156) (by decide +kernel))) rfl
theorem fl_X6_168 : Cond.fieldLink RX6 168 "PercolatedModel" "turned" "I" ∈ gTbl := gTbl_of (in_3 (List.mem_of_getElem? (i := 157) (by decide +kernel))) rfl
theorem fl_X6_49 : Cond.fieldLink RX6 49 "PercolatedModel" "had" "[I" ∈ gTbl := gTbl_of (in_3 (List.mem_of_getElem? (i := 158) (by decide +kernel))) rfl
theorem fl_X6_52 : Cond.fieldLink RX6 52 "PercolatedModel" "row" "[I" ∈ gTbl := gTbl_of (in_3 (List.mem_of_getElem? (i := 159) (by decide +kernel))) rfl
theorem fl_X6_234 : Cond.fieldLink RX6 234 "PercolatedModel" "rowMany" "I" ∈ gTbl := gTbl_of (in_3 (List.mem_of_getElem? (i := 160) (by decide +kernel))) rfl
theorem fl_X6_55 : Cond.fieldLink RX6 55 "PercolatedModel" "gains" "[I" ∈ gTbl := gTbl_of (in_3 (List.mem_of_getElem? (i := 161) (by decide +kernel))) rfl
theorem fl_X6_266 : Cond.fieldLink RX6 266 "PercolatedModel" "seed" "I" ∈ gTbl := gTbl_of (in_3 (List.mem_of_getElem? (i := 162) (by decide +kernel))) rfl
theorem ml_L_17 : Cond.methodLink RL 17 yX6_feed ∈ gTbl := gTbl_of (in_3 (List.mem_of_getElem? (i := 232) (by decide +kernel))) rfl
theorem im_X6_feed : Cond.instanceMethod yX6_feed ∈ gTbl := gTbl_of (in_3 (List.mem_of_getElem? (i := 233) (by decide +kernel))) rfl
theorem sl_X6_feed : Cond.selects RX6 yX6_feed yX6_feed ∈ gTbl := gTbl_of (in_3 (List.mem_of_getElem? (i := 234) (by decide +kernel))) rfl
theorem cd_X6_feed : Cond.code yX6_feed cX6_feed 2 (some .int) ∈ gTbl := gTbl_of (in_3 (List.mem_of_getElem? (i := 235) rfl)) rfl
theorem ml_X6_108 : Cond.methodLink RX6 108 yX6_refuse ∈ gTbl := gTbl_of (in_3 (List.mem_of_getElem? (i := 236) (by decide +kernel))) rfl
theorem im_X6_refuse : Cond.instanceMethod yX6_refuse ∈ gTbl := gTbl_of (in_3 (List.mem_of_getElem? (i := 238) (by decide +kernel))) rfl
theorem cd_X6_refuse : Cond.code yX6_refuse cX6_refuse 2 (some .int) ∈ gTbl := gTbl_of (in_3 (List.mem_of_getElem? (i := 239) rfl)) rfl
theorem ml_L_22 : Cond.methodLink RL 22 yX6_parish ∈ gTbl := gTbl_of (in_4 (List.mem_of_getElem? (i := 0) (by decide +kernel))) rfl
theorem im_X6_parish : Cond.instanceMethod yX6_parish ∈ gTbl := gTbl_of (in_4 (List.mem_of_getElem? (i := 1) (by decide +kernel))) rfl
theorem sl_X6_parish : Cond.selects RX6 yX6_parish yX6_parish ∈ gTbl := gTbl_of (in_4 (List.mem_of_getElem? (i := 2) (by decide +kernel))) rfl
theorem cd_X6_parish : Cond.code yX6_parish cX6_parish 2 (some .int) ∈ gTbl := gTbl_of (in_4 (List.mem_of_getElem? (i := 3) rfl)) rfl
theorem ml_X6_156 : Cond.methodLink RX6 156 yX6_readStatement ∈ gTbl := gTbl_of (in_4 (List.mem_of_getElem? (i := 4) (by decide +kernel))) rfl
theorem im_X6_readStatement : Cond.instanceMethod yX6_readStatement ∈ gTbl := gTbl_of (in_4 (List.mem_of_getElem? (i := 6) (by decide +kernel))) rfl
theorem cd_X6_readStatement : Cond.code yX6_readStatement cX6_readStatement 3 none ∈ gTbl := gTbl_of (in_4 (List.mem_of_getElem? (i := 7) rfl)) rfl
theorem ml_X6_120 : Cond.methodLink RX6 120 yX6_here ∈ gTbl := gTbl_of (in_4 (List.mem_of_getElem? (i := 8) (by decide +kernel))) rfl
theorem im_X6_here : Cond.instanceMethod yX6_here ∈ gTbl := gTbl_of (in_4 (List.mem_of_getElem? (i := 10) (by decide +kernel))) rfl
theorem cd_X6_here : Cond.code yX6_here cX6_here 1 (some .int) ∈ gTbl := gTbl_of (in_4 (List.mem_of_getElem? (i := 11) rfl)) rfl
theorem ml_X6_134 : Cond.methodLink RX6 134 yX6_isLetter ∈ gTbl := gTbl_of (in_4 (List.mem_of_getElem? (i := 12) (by decide +kernel))) rfl
theorem sm_X6_isLetter : Cond.static yX6_isLetter ∈ gTbl := gTbl_of (in_4 (List.mem_of_getElem? (i := 13) (by decide +kernel))) rfl
theorem cd_X6_isLetter : Cond.code yX6_isLetter cX6_isLetter 1 (some .boolean) ∈ gTbl := gTbl_of (in_4 (List.mem_of_getElem? (i := 14) rfl)) rfl
theorem ml_X6_138 : Cond.methodLink RX6 138 yX6_readNumbers ∈ gTbl := gTbl_of (in_4 (List.mem_of_getElem? (i := 15) (by decide +kernel))) rfl
theorem im_X6_readNumbers : Cond.instanceMethod yX6_readNumbers ∈ gTbl := gTbl_of (in_4 (List.mem_of_getElem? (i := 17) (by decide +kernel))) rfl
theorem cd_X6_readNumbers : Cond.code yX6_readNumbers cX6_readNumbers 3 none ∈ gTbl := gTbl_of (in_4 (List.mem_of_getElem? (i := 18) rfl)) rfl
theorem ml_X6_128 : Cond.methodLink RX6 128 yX6_readDigits ∈ gTbl := gTbl_of (in_4 (List.mem_of_getElem? (i := 19) (by decide +kernel))) rfl
theorem im_X6_readDigits : Cond.instanceMethod yX6_readDigits ∈ gTbl := gTbl_of (in_4 (List.mem_of_getElem? (i := 21) (by decide +kernel))) rfl
theorem cd_X6_readDigits : Cond.code yX6_readDigits cX6_readDigits 4 (some .int) ∈ gTbl := gTbl_of (in_4 (List.mem_of_getElem? (i := 22) rfl)) rfl
theorem ct_X6_124 : Cond.constantLong RX6 124 (48) ∈ gTbl := gTbl_of (in_4 (List.mem_of_getElem? (i := 23) (by decide +kernel))) rfl
theorem ct_X6_126 : Cond.constantLong RX6 126 (57) ∈ gTbl := gTbl_of (in_4 (List.mem_of_getElem? (i := 24) (by decide +kernel))) rfl
theorem ml_X6_65 : Cond.methodLink RX6 65 yX6_in ∈ gTbl := gTbl_of (in_4 (List.mem_of_getElem? (i := 25) (by decide +kernel))) rfl
theorem sm_X6_in : Cond.static yX6_in ∈ gTbl := gTbl_of (in_4 (List.mem_of_getElem? (i := 26) (by decide +kernel))) rfl
theorem cd_X6_in : Cond.code yX6_in cX6_in 6 (some .boolean) ∈ gTbl := gTbl_of (in_4 (List.mem_of_getElem? (i := 27) rfl)) rfl
theorem ml_X6_159 : Cond.methodLink RX6 159 yX6_think ∈ gTbl := gTbl_of (in_4 (List.mem_of_getElem? (i := 28) (by decide +kernel))) rfl
theorem im_X6_think : Cond.instanceMethod yX6_think ∈ gTbl := gTbl_of (in_4 (List.mem_of_getElem? (i := 30) (by decide +kernel))) rfl
theorem cd_X6_think : Cond.code yX6_think cX6_think 1 none ∈ gTbl := gTbl_of (in_4 (List.mem_of_getElem? (i := 31) rfl)) rfl
theorem ml_X6_183 : Cond.methodLink RX6 183 yX6_carryAll ∈ gTbl := gTbl_of (in_4 (List.mem_of_getElem? (i := 32) (by decide +kernel))) rfl
theorem im_X6_carryAll : Cond.instanceMethod yX6_carryAll ∈ gTbl := gTbl_of (in_4 (List.mem_of_getElem? (i := 34) (by decide +kernel))) rfl
theorem cd_X6_carryAll : Cond.code yX6_carryAll cX6_carryAll 4 none ∈ gTbl := gTbl_of (in_4 (List.mem_of_getElem? (i := 35) rfl)) rfl
theorem ml_X6_180 : Cond.methodLink RX6 180 yX6_carry ∈ gTbl := gTbl_of (in_4 (List.mem_of_getElem? (i := 36) (by decide +kernel))) rfl
theorem im_X6_carry : Cond.instanceMethod yX6_carry ∈ gTbl := gTbl_of (in_4 (List.mem_of_getElem? (i := 38) (by decide +kernel))) rfl
theorem cd_X6_carry : Cond.code yX6_carry cX6_carry 2 (some .int) ∈ gTbl := gTbl_of (in_4 (List.mem_of_getElem? (i := 39) rfl)) rfl
theorem ml_X6_162 : Cond.methodLink RX6 162 yX6_comesTold ∈ gTbl := gTbl_of (in_4 (List.mem_of_getElem? (i := 40) (by decide +kernel))) rfl
theorem im_X6_comesTold : Cond.instanceMethod yX6_comesTold ∈ gTbl := gTbl_of (in_4 (List.mem_of_getElem? (i := 42) (by decide +kernel))) rfl
theorem cd_X6_comesTold : Cond.code yX6_comesTold cX6_comesTold 5 (some .boolean) ∈ gTbl := gTbl_of (in_4 (List.mem_of_getElem? (i := 43) rfl)) rfl
theorem ml_X6_147 : Cond.methodLink RX6 147 yX6_isHouse ∈ gTbl := gTbl_of (in_4 (List.mem_of_getElem? (i := 44) (by decide +kernel))) rfl
theorem im_X6_isHouse : Cond.instanceMethod yX6_isHouse ∈ gTbl := gTbl_of (in_4 (List.mem_of_getElem? (i := 46) (by decide +kernel))) rfl
theorem cd_X6_isHouse : Cond.code yX6_isHouse cX6_isHouse 2 (some .boolean) ∈ gTbl := gTbl_of (in_4 (List.mem_of_getElem? (i := 47) rfl)) rfl
theorem ml_X6_150 : Cond.methodLink RX6 150 yX6_houseComes ∈ gTbl := gTbl_of (in_4 (List.mem_of_getElem? (i := 48) (by decide +kernel))) rfl
theorem im_X6_houseComes : Cond.instanceMethod yX6_houseComes ∈ gTbl := gTbl_of (in_4 (List.mem_of_getElem? (i := 50) (by decide +kernel))) rfl
theorem cd_X6_houseComes : Cond.code yX6_houseComes cX6_houseComes 4 (some .boolean) ∈ gTbl := gTbl_of (in_4 (List.mem_of_getElem? (i := 51) rfl)) rfl
theorem ml_X6_97 : Cond.methodLink RX6 97 yX6_pourIn ∈ gTbl := gTbl_of (in_4 (List.mem_of_getElem? (i := 52) (by decide +kernel))) rfl
theorem im_X6_pourIn : Cond.instanceMethod yX6_pourIn ∈ gTbl := gTbl_of (in_4 (List.mem_of_getElem? (i := 54) (by decide +kernel))) rfl
theorem cd_X6_pourIn : Cond.code yX6_pourIn cX6_pourIn 3 none ∈ gTbl := gTbl_of (in_4 (List.mem_of_getElem? (i := 55) rfl)) rfl
theorem ml_X6_69 : Cond.methodLink RX6 69 yX6_held ∈ gTbl := gTbl_of (in_4 (List.mem_of_getElem? (i := 56) (by decide +kernel))) rfl
theorem sm_X6_held : Cond.static yX6_held ∈ gTbl := gTbl_of (in_4 (List.mem_of_getElem? (i := 57) (by decide +kernel))) rfl
theorem cd_X6_held : Cond.code yX6_held cX6_held 2 (some .int) ∈ gTbl := gTbl_of (in_4 (List.mem_of_getElem? (i := 58) rfl)) rfl
theorem ml_X6_153 : Cond.methodLink RX6 153 yX6_hoursTold ∈ gTbl := gTbl_of (in_4 (List.mem_of_getElem? (i := 59) (by decide +kernel))) rfl
theorem im_X6_hoursTold : Cond.instanceMethod yX6_hoursTold ∈ gTbl := gTbl_of (in_4 (List.mem_of_getElem? (i := 61) (by decide +kernel))) rfl
theorem cd_X6_hoursTold : Cond.code yX6_hoursTold cX6_hoursTold 3 (some .boolean) ∈ gTbl := gTbl_of (in_4 (List.mem_of_getElem? (i := 62) rfl)) rfl
theorem ct_X6_141 : Cond.constantLong RX6 141 (60) ∈ gTbl := gTbl_of (in_4 (List.mem_of_getElem? (i := 63) (by decide +kernel))) rfl
theorem ml_X6_143 : Cond.methodLink RX6 143 yX6_goHours ∈ gTbl := gTbl_of (in_4 (List.mem_of_getElem? (i := 64) (by decide +kernel))) rfl
theorem im_X6_goHours : Cond.instanceMethod yX6_goHours ∈ gTbl := gTbl_of (in_4 (List.mem_of_getElem? (i := 66) (by decide +kernel))) rfl
theorem cd_X6_goHours : Cond.code yX6_goHours cX6_goHours 3 none ∈ gTbl := gTbl_of (in_4 (List.mem_of_getElem? (i := 67) rfl)) rfl
theorem ml_X6_104 : Cond.methodLink RX6 104 yX6_hourBy ∈ gTbl := gTbl_of (in_4 (List.mem_of_getElem? (i := 68) (by decide +kernel))) rfl
theorem im_X6_hourBy : Cond.instanceMethod yX6_hourBy ∈ gTbl := gTbl_of (in_4 (List.mem_of_getElem? (i := 70) (by decide +kernel))) rfl
theorem cd_X6_hourBy : Cond.code yX6_hourBy cX6_hourBy 5 none ∈ gTbl := gTbl_of (in_4 (List.mem_of_getElem? (i := 71) rfl)) rfl
theorem ml_X6_86 : Cond.methodLink RX6 86 yX6_hasBit ∈ gTbl := gTbl_of (in_4 (List.mem_of_getElem? (i := 72) (by decide +kernel))) rfl
theorem sm_X6_hasBit : Cond.static yX6_hasBit ∈ gTbl := gTbl_of (in_4 (List.mem_of_getElem? (i := 73) (by decide +kernel))) rfl
theorem cd_X6_hasBit : Cond.code yX6_hasBit cX6_hasBit 2 (some .boolean) ∈ gTbl := gTbl_of (in_4 (List.mem_of_getElem? (i := 74) rfl)) rfl
theorem ml_X6_90 : Cond.methodLink RX6 90 yX6_letsOf ∈ gTbl := gTbl_of (in_4 (List.mem_of_getElem? (i := 75) (by decide +kernel))) rfl
theorem im_X6_letsOf : Cond.instanceMethod yX6_letsOf ∈ gTbl := gTbl_of (in_4 (List.mem_of_getElem? (i := 77) (by decide +kernel))) rfl
theorem cd_X6_letsOf : Cond.code yX6_letsOf cX6_letsOf 3 (some .int) ∈ gTbl := gTbl_of (in_4 (List.mem_of_getElem? (i := 78) rfl)) rfl
theorem ml_X6_94 : Cond.methodLink RX6 94 yX6_addsOf ∈ gTbl := gTbl_of (in_4 (List.mem_of_getElem? (i := 79) (by decide +kernel))) rfl
theorem im_X6_addsOf : Cond.instanceMethod yX6_addsOf ∈ gTbl := gTbl_of (in_4 (List.mem_of_getElem? (i := 81) (by decide +kernel))) rfl
theorem cd_X6_addsOf : Cond.code yX6_addsOf cX6_addsOf 2 (some .int) ∈ gTbl := gTbl_of (in_4 (List.mem_of_getElem? (i := 82) rfl)) rfl
theorem ml_X6_165 : Cond.methodLink RX6 165 yX6_again ∈ gTbl := gTbl_of (in_4 (List.mem_of_getElem? (i := 83) (by decide +kernel))) rfl
theorem im_X6_again : Cond.instanceMethod yX6_again ∈ gTbl := gTbl_of (in_4 (List.mem_of_getElem? (i := 85) (by decide +kernel))) rfl
theorem cd_X6_again : Cond.code yX6_again cX6_again 1 none ∈ gTbl := gTbl_of (in_4 (List.mem_of_getElem? (i := 86) rfl)) rfl
theorem ml_L_166 : Cond.methodLink RL 166 yX6_image ∈ gTbl := gTbl_of (in_4 (List.mem_of_getElem? (i := 87) (by decide +kernel))) rfl
theorem im_X6_image : Cond.instanceMethod yX6_image ∈ gTbl := gTbl_of (in_4 (List.mem_of_getElem? (i := 88) (by decide +kernel))) rfl
theorem sl_X6_image : Cond.selects RX6 yX6_image yX6_image ∈ gTbl := gTbl_of (in_4 (List.mem_of_getElem? (i := 89) (by decide +kernel))) rfl
theorem cd_X6_image : Cond.code yX6_image cX6_image 1 (some .int) ∈ gTbl := gTbl_of (in_4 (List.mem_of_getElem? (i := 90) rfl)) rfl
theorem ml_L_170 : Cond.methodLink RL 170 yX6_restore ∈ gTbl := gTbl_of (in_4 (List.mem_of_getElem? (i := 91) (by decide +kernel))) rfl
theorem im_X6_restore : Cond.instanceMethod yX6_restore ∈ gTbl := gTbl_of (in_4 (List.mem_of_getElem? (i := 92) (by decide +kernel))) rfl
theorem sl_X6_restore : Cond.selects RX6 yX6_restore yX6_restore ∈ gTbl := gTbl_of (in_4 (List.mem_of_getElem? (i := 93) (by decide +kernel))) rfl
theorem cd_X6_restore : Cond.code yX6_restore cX6_restore 1 (some .int) ∈ gTbl := gTbl_of (in_4 (List.mem_of_getElem? (i := 94) rfl)) rfl
theorem ml_L_55 : Cond.methodLink RL 55 yX6_back ∈ gTbl := gTbl_of (in_4 (List.mem_of_getElem? (i := 95) (by decide +kernel))) rfl
theorem im_X6_back : Cond.instanceMethod yX6_back ∈ gTbl := gTbl_of (in_4 (List.mem_of_getElem? (i := 96) (by decide +kernel))) rfl
theorem sl_X6_back : Cond.selects RX6 yX6_back yX6_back ∈ gTbl := gTbl_of (in_4 (List.mem_of_getElem? (i := 97) (by decide +kernel))) rfl
theorem cd_X6_back : Cond.code yX6_back cX6_back 2 (some .int) ∈ gTbl := gTbl_of (in_4 (List.mem_of_getElem? (i := 98) rfl)) rfl
theorem ml_L_27 : Cond.methodLink RL 27 yX6_houseOf ∈ gTbl := gTbl_of (in_4 (List.mem_of_getElem? (i := 99) (by decide +kernel))) rfl
theorem im_X6_houseOf : Cond.instanceMethod yX6_houseOf ∈ gTbl := gTbl_of (in_4 (List.mem_of_getElem? (i := 100) (by decide +kernel))) rfl
theorem sl_X6_houseOf : Cond.selects RX6 yX6_houseOf yX6_houseOf ∈ gTbl := gTbl_of (in_4 (List.mem_of_getElem? (i := 101) (by decide +kernel))) rfl
theorem cd_X6_houseOf : Cond.code yX6_houseOf cX6_houseOf 3 (some .int) ∈ gTbl := gTbl_of (in_4 (List.mem_of_getElem? (i := 102) rfl)) rfl
theorem ct_X6_190 : Cond.constantLong RX6 190 (6) ∈ gTbl := gTbl_of (in_4 (List.mem_of_getElem? (i := 103) (by decide +kernel))) rfl
theorem ml_X6_192 : Cond.methodLink RX6 192 yX6_letNext ∈ gTbl := gTbl_of (in_4 (List.mem_of_getElem? (i := 104) (by decide +kernel))) rfl
theorem im_X6_letNext : Cond.instanceMethod yX6_letNext ∈ gTbl := gTbl_of (in_4 (List.mem_of_getElem? (i := 106) (by decide +kernel))) rfl
theorem cd_X6_letNext : Cond.code yX6_letNext cX6_letNext 2 (some .int) ∈ gTbl := gTbl_of (in_4 (List.mem_of_getElem? (i := 107) rfl)) rfl
theorem ml_L_31 : Cond.methodLink RL 31 yX6_house ∈ gTbl := gTbl_of (in_4 (List.mem_of_getElem? (i := 108) (by decide +kernel))) rfl
theorem im_X6_house : Cond.instanceMethod yX6_house ∈ gTbl := gTbl_of (in_4 (List.mem_of_getElem? (i := 109) (by decide +kernel))) rfl
theorem sl_X6_house : Cond.selects RX6 yX6_house yX6_house ∈ gTbl := gTbl_of (in_4 (List.mem_of_getElem? (i := 110) (by decide +kernel))) rfl
theorem cd_X6_house : Cond.code yX6_house cX6_house 4 (some .int) ∈ gTbl := gTbl_of (in_4 (List.mem_of_getElem? (i := 111) rfl)) rfl
theorem ct_X6_195 : Cond.constantLong RX6 195 (5) ∈ gTbl := gTbl_of (in_4 (List.mem_of_getElem? (i := 112) (by decide +kernel))) rfl
theorem ml_X6_197 : Cond.methodLink RX6 197 yX6_wrongNumber ∈ gTbl := gTbl_of (in_4 (List.mem_of_getElem? (i := 113) (by decide +kernel))) rfl
theorem sm_X6_wrongNumber : Cond.static yX6_wrongNumber ∈ gTbl := gTbl_of (in_4 (List.mem_of_getElem? (i := 114) (by decide +kernel))) rfl
theorem cd_X6_wrongNumber : Cond.code yX6_wrongNumber cX6_wrongNumber 3 (some .int) ∈ gTbl := gTbl_of (in_4 (List.mem_of_getElem? (i := 115) rfl)) rfl
theorem ml_L_35 : Cond.methodLink RL 35 yX6_joins ∈ gTbl := gTbl_of (in_4 (List.mem_of_getElem? (i := 116) (by decide +kernel))) rfl
theorem im_X6_joins : Cond.instanceMethod yX6_joins ∈ gTbl := gTbl_of (in_4 (List.mem_of_getElem? (i := 117) (by decide +kernel))) rfl
theorem sl_X6_joins : Cond.selects RX6 yX6_joins yX6_joins ∈ gTbl := gTbl_of (in_4 (List.mem_of_getElem? (i := 118) (by decide +kernel))) rfl
theorem cd_X6_joins : Cond.code yX6_joins cX6_joins 4 (some .int) ∈ gTbl := gTbl_of (in_4 (List.mem_of_getElem? (i := 119) rfl)) rfl
theorem ct_X6_201 : Cond.constantLong RX6 201 (9) ∈ gTbl := gTbl_of (in_4 (List.mem_of_getElem? (i := 120) (by decide +kernel))) rfl
theorem ml_X6_203 : Cond.methodLink RX6 203 yX6_keepTurn ∈ gTbl := gTbl_of (in_4 (List.mem_of_getElem? (i := 121) (by decide +kernel))) rfl
theorem im_X6_keepTurn : Cond.instanceMethod yX6_keepTurn ∈ gTbl := gTbl_of (in_4 (List.mem_of_getElem? (i := 123) (by decide +kernel))) rfl
theorem cd_X6_keepTurn : Cond.code yX6_keepTurn cX6_keepTurn 2 none ∈ gTbl := gTbl_of (in_4 (List.mem_of_getElem? (i := 124) rfl)) rfl
theorem ml_L_39 : Cond.methodLink RL 39 yX6_blocks ∈ gTbl := gTbl_of (in_4 (List.mem_of_getElem? (i := 125) (by decide +kernel))) rfl
theorem im_X6_blocks : Cond.instanceMethod yX6_blocks ∈ gTbl := gTbl_of (in_4 (List.mem_of_getElem? (i := 126) (by decide +kernel))) rfl
theorem sl_X6_blocks : Cond.selects RX6 yX6_blocks yX6_blocks ∈ gTbl := gTbl_of (in_4 (List.mem_of_getElem? (i := 127) (by decide +kernel))) rfl
theorem cd_X6_blocks : Cond.code yX6_blocks cX6_blocks 2 (some .int) ∈ gTbl := gTbl_of (in_4 (List.mem_of_getElem? (i := 128) rfl)) rfl
theorem ml_L_43 : Cond.methodLink RL 43 yX6_pours ∈ gTbl := gTbl_of (in_4 (List.mem_of_getElem? (i := 129) (by decide +kernel))) rfl
theorem im_X6_pours : Cond.instanceMethod yX6_pours ∈ gTbl := gTbl_of (in_4 (List.mem_of_getElem? (i := 130) (by decide +kernel))) rfl
theorem sl_X6_pours : Cond.selects RX6 yX6_pours yX6_pours ∈ gTbl := gTbl_of (in_4 (List.mem_of_getElem? (i := 131) (by decide +kernel))) rfl
theorem cd_X6_pours : Cond.code yX6_pours cX6_pours 4 (some .int) ∈ gTbl := gTbl_of (in_4 (List.mem_of_getElem? (i := 132) rfl)) rfl
theorem ml_L_47 : Cond.methodLink RL 47 yX6_empties ∈ gTbl := gTbl_of (in_4 (List.mem_of_getElem? (i := 133) (by decide +kernel))) rfl
theorem im_X6_empties : Cond.instanceMethod yX6_empties ∈ gTbl := gTbl_of (in_4 (List.mem_of_getElem? (i := 134) (by decide +kernel))) rfl
theorem sl_X6_empties : Cond.selects RX6 yX6_empties yX6_empties ∈ gTbl := gTbl_of (in_4 (List.mem_of_getElem? (i := 135) (by decide +kernel))) rfl
theorem cd_X6_empties : Cond.code yX6_empties cX6_empties 2 (some .int) ∈ gTbl := gTbl_of (in_4 (List.mem_of_getElem? (i := 136) rfl)) rfl
theorem ml_L_51 : Cond.methodLink RL 51 yX6_hours ∈ gTbl := gTbl_of (in_4 (List.mem_of_getElem? (i := 137) (by decide +kernel))) rfl
theorem im_X6_hours : Cond.instanceMethod yX6_hours ∈ gTbl := gTbl_of (in_4 (List.mem_of_getElem? (i := 138) (by decide +kernel))) rfl
theorem sl_X6_hours : Cond.selects RX6 yX6_hours yX6_hours ∈ gTbl := gTbl_of (in_4 (List.mem_of_getElem? (i := 139) (by decide +kernel))) rfl
theorem cd_X6_hours : Cond.code yX6_hours cX6_hours 3 (some .int) ∈ gTbl := gTbl_of (in_4 (List.mem_of_getElem? (i := 140) rfl)) rfl
theorem ml_L_59 : Cond.methodLink RL 59 yX6_holdsIn ∈ gTbl := gTbl_of (in_4 (List.mem_of_getElem? (i := 141) (by decide +kernel))) rfl
theorem im_X6_holdsIn : Cond.instanceMethod yX6_holdsIn ∈ gTbl := gTbl_of (in_4 (List.mem_of_getElem? (i := 142) (by decide +kernel))) rfl
theorem sl_X6_holdsIn : Cond.selects RX6 yX6_holdsIn yX6_holdsIn ∈ gTbl := gTbl_of (in_4 (List.mem_of_getElem? (i := 143) (by decide +kernel))) rfl
theorem cd_X6_holdsIn : Cond.code yX6_holdsIn cX6_holdsIn 5 (some .int) ∈ gTbl := gTbl_of (in_4 (List.mem_of_getElem? (i := 144) rfl)) rfl
theorem ml_L_63 : Cond.methodLink RL 63 yX6_then ∈ gTbl := gTbl_of (in_4 (List.mem_of_getElem? (i := 145) (by decide +kernel))) rfl
theorem im_X6_then : Cond.instanceMethod yX6_then ∈ gTbl := gTbl_of (in_4 (List.mem_of_getElem? (i := 146) (by decide +kernel))) rfl
theorem sl_X6_then : Cond.selects RX6 yX6_then yX6_then ∈ gTbl := gTbl_of (in_4 (List.mem_of_getElem? (i := 147) (by decide +kernel))) rfl
theorem cd_X6_then : Cond.code yX6_then cX6_then 5 (some .int) ∈ gTbl := gTbl_of (in_4 (List.mem_of_getElem? (i := 148) rfl)) rfl
theorem ml_X6_206 : Cond.methodLink RX6 206 yX6_wrongBit ∈ gTbl := gTbl_of (in_4 (List.mem_of_getElem? (i := 149) (by decide +kernel))) rfl
theorem sm_X6_wrongBit : Cond.static yX6_wrongBit ∈ gTbl := gTbl_of (in_4 (List.mem_of_getElem? (i := 150) (by decide +kernel))) rfl
theorem cd_X6_wrongBit : Cond.code yX6_wrongBit cX6_wrongBit 3 (some .int) ∈ gTbl := gTbl_of (in_4 (List.mem_of_getElem? (i := 151) rfl)) rfl
theorem ml_X6_209 : Cond.methodLink RX6 209 yX6_allHold ∈ gTbl := gTbl_of (in_4 (List.mem_of_getElem? (i := 152) (by decide +kernel))) rfl
theorem im_X6_allHold : Cond.instanceMethod yX6_allHold ∈ gTbl := gTbl_of (in_4 (List.mem_of_getElem? (i := 154) (by decide +kernel))) rfl
theorem cd_X6_allHold : Cond.code yX6_allHold cX6_allHold 3 (some .int) ∈ gTbl := gTbl_of (in_4 (List.mem_of_getElem? (i := 155) rfl)) rfl
theorem ml_L_67 : Cond.methodLink RL 67 yX6_drip ∈ gTbl := gTbl_of (in_4 (List.mem_of_getElem? (i := 156) (by decide +kernel))) rfl
theorem im_X6_drip : Cond.instanceMethod yX6_drip ∈ gTbl := gTbl_of (in_4 (List.mem_of_getElem? (i := 157) (by decide +kernel))) rfl
theorem sl_X6_drip : Cond.selects RX6 yX6_drip yX6_drip ∈ gTbl := gTbl_of (in_4 (List.mem_of_getElem? (i := 158) (by decide +kernel))) rfl
theorem cd_X6_drip : Cond.code yX6_drip cX6_drip 2 (some .int) ∈ gTbl := gTbl_of (in_4 (List.mem_of_getElem? (i := 159) rfl)) rfl
theorem ml_X6_216 : Cond.methodLink RX6 216 yX6_firstDrip ∈ gTbl := gTbl_of (in_4 (List.mem_of_getElem? (i := 160) (by decide +kernel))) rfl
theorem im_X6_firstDrip : Cond.instanceMethod yX6_firstDrip ∈ gTbl := gTbl_of (in_4 (List.mem_of_getElem? (i := 162) (by decide +kernel))) rfl
theorem cd_X6_firstDrip : Cond.code yX6_firstDrip cX6_firstDrip 4 (some .int) ∈ gTbl := gTbl_of (in_4 (List.mem_of_getElem? (i := 163) rfl)) rfl
theorem ml_X6_219 : Cond.methodLink RX6 219 yX6_dryIn ∈ gTbl := gTbl_of (in_4 (List.mem_of_getElem? (i := 164) (by decide +kernel))) rfl
theorem im_X6_dryIn : Cond.instanceMethod yX6_dryIn ∈ gTbl := gTbl_of (in_4 (List.mem_of_getElem? (i := 166) (by decide +kernel))) rfl
theorem cd_X6_dryIn : Cond.code yX6_dryIn cX6_dryIn 3 (some .int) ∈ gTbl := gTbl_of (in_4 (List.mem_of_getElem? (i := 167) rfl)) rfl
theorem ml_X6_222 : Cond.methodLink RX6 222 yX6_settledIn ∈ gTbl := gTbl_of (in_4 (List.mem_of_getElem? (i := 168) (by decide +kernel))) rfl
theorem im_X6_settledIn : Cond.instanceMethod yX6_settledIn ∈ gTbl := gTbl_of (in_4 (List.mem_of_getElem? (i := 170) (by decide +kernel))) rfl
theorem cd_X6_settledIn : Cond.code yX6_settledIn cX6_settledIn 5 (some .int) ∈ gTbl := gTbl_of (in_4 (List.mem_of_getElem? (i := 171) rfl)) rfl
theorem ml_X6_212 : Cond.methodLink RX6 212 yX6_isAsHad ∈ gTbl := gTbl_of (in_4 (List.mem_of_getElem? (i := 172) (by decide +kernel))) rfl
theorem im_X6_isAsHad : Cond.instanceMethod yX6_isAsHad ∈ gTbl := gTbl_of (in_4 (List.mem_of_getElem? (i := 174) (by decide +kernel))) rfl
theorem cd_X6_isAsHad : Cond.code yX6_isAsHad cX6_isAsHad 3 (some .boolean) ∈ gTbl := gTbl_of (in_4 (List.mem_of_getElem? (i := 175) rfl)) rfl
theorem ml_L_71 : Cond.methodLink RL 71 yX6_reaches ∈ gTbl := gTbl_of (in_4 (List.mem_of_getElem? (i := 176) (by decide +kernel))) rfl
theorem im_X6_reaches : Cond.instanceMethod yX6_reaches ∈ gTbl := gTbl_of (in_4 (List.mem_of_getElem? (i := 177) (by decide +kernel))) rfl
theorem sl_X6_reaches : Cond.selects RX6 yX6_reaches yX6_reaches ∈ gTbl := gTbl_of (in_4 (List.mem_of_getElem? (i := 178) (by decide +kernel))) rfl
theorem cd_X6_reaches : Cond.code yX6_reaches cX6_reaches 6 (some .int) ∈ gTbl := gTbl_of (in_4 (List.mem_of_getElem? (i := 179) rfl)) rfl
theorem ml_L_76 : Cond.methodLink RL 76 yX6_pour ∈ gTbl := gTbl_of (in_4 (List.mem_of_getElem? (i := 180) (by decide +kernel))) rfl
theorem im_X6_pour : Cond.instanceMethod yX6_pour ∈ gTbl := gTbl_of (in_4 (List.mem_of_getElem? (i := 181) (by decide +kernel))) rfl
theorem sl_X6_pour : Cond.selects RX6 yX6_pour yX6_pour ∈ gTbl := gTbl_of (in_4 (List.mem_of_getElem? (i := 182) (by decide +kernel))) rfl
theorem cd_X6_pour : Cond.code yX6_pour cX6_pour 9 (some .int) ∈ gTbl := gTbl_of (in_4 (List.mem_of_getElem? (i := 183) rfl)) rfl
theorem ml_X6_225 : Cond.methodLink RX6 225 yX6_cupThen ∈ gTbl := gTbl_of (in_4 (List.mem_of_getElem? (i := 184) (by decide +kernel))) rfl
theorem im_X6_cupThen : Cond.instanceMethod yX6_cupThen ∈ gTbl := gTbl_of (in_4 (List.mem_of_getElem? (i := 186) (by decide +kernel))) rfl
theorem cd_X6_cupThen : Cond.code yX6_cupThen cX6_cupThen 3 (some .int) ∈ gTbl := gTbl_of (in_4 (List.mem_of_getElem? (i := 187) rfl)) rfl
theorem ml_L_80 : Cond.methodLink RL 80 yX6_least ∈ gTbl := gTbl_of (in_4 (List.mem_of_getElem? (i := 188) (by decide +kernel))) rfl
theorem im_X6_least : Cond.instanceMethod yX6_least ∈ gTbl := gTbl_of (in_4 (List.mem_of_getElem? (i := 189) (by decide +kernel))) rfl
theorem sl_X6_least : Cond.selects RX6 yX6_least yX6_least ∈ gTbl := gTbl_of (in_4 (List.mem_of_getElem? (i := 190) (by decide +kernel))) rfl
theorem cd_X6_least : Cond.code yX6_least cX6_least 6 (some .int) ∈ gTbl := gTbl_of (in_4 (List.mem_of_getElem? (i := 191) rfl)) rfl
theorem ml_L_84 : Cond.methodLink RL 84 yX6_clearing ∈ gTbl := gTbl_of (in_4 (List.mem_of_getElem? (i := 192) (by decide +kernel))) rfl
theorem im_X6_clearing : Cond.instanceMethod yX6_clearing ∈ gTbl := gTbl_of (in_4 (List.mem_of_getElem? (i := 193) (by decide +kernel))) rfl
theorem sl_X6_clearing : Cond.selects RX6 yX6_clearing yX6_clearing ∈ gTbl := gTbl_of (in_4 (List.mem_of_getElem? (i := 194) (by decide +kernel))) rfl
theorem cd_X6_clearing : Cond.code yX6_clearing cX6_clearing 7 (some .int) ∈ gTbl := gTbl_of (in_4 (List.mem_of_getElem? (i := 195) rfl)) rfl
theorem ml_X6_228 : Cond.methodLink RX6 228 yX6_onesOf ∈ gTbl := gTbl_of (in_4 (List.mem_of_getElem? (i := 196) (by decide +kernel))) rfl
theorem sm_X6_onesOf : Cond.static yX6_onesOf ∈ gTbl := gTbl_of (in_4 (List.mem_of_getElem? (i := 197) (by decide +kernel))) rfl
theorem cd_X6_onesOf : Cond.code yX6_onesOf cX6_onesOf 3 (some .int) ∈ gTbl := gTbl_of (in_4 (List.mem_of_getElem? (i := 198) rfl)) rfl
theorem ml_L_88 : Cond.methodLink RL 88 yX6_stop ∈ gTbl := gTbl_of (in_4 (List.mem_of_getElem? (i := 199) (by decide +kernel))) rfl
theorem im_X6_stop : Cond.instanceMethod yX6_stop ∈ gTbl := gTbl_of (in_4 (List.mem_of_getElem? (i := 200) (by decide +kernel))) rfl
theorem sl_X6_stop : Cond.selects RX6 yX6_stop yX6_stop ∈ gTbl := gTbl_of (in_4 (List.mem_of_getElem? (i := 201) (by decide +kernel))) rfl
theorem cd_X6_stop : Cond.code yX6_stop cX6_stop 7 (some .int) ∈ gTbl := gTbl_of (in_4 (List.mem_of_getElem? (i := 202) rfl)) rfl
theorem ml_L_92 : Cond.methodLink RL 92 yX6_join ∈ gTbl := gTbl_of (in_4 (List.mem_of_getElem? (i := 203) (by decide +kernel))) rfl
theorem im_X6_join : Cond.instanceMethod yX6_join ∈ gTbl := gTbl_of (in_4 (List.mem_of_getElem? (i := 204) (by decide +kernel))) rfl
theorem sl_X6_join : Cond.selects RX6 yX6_join yX6_join ∈ gTbl := gTbl_of (in_4 (List.mem_of_getElem? (i := 205) (by decide +kernel))) rfl
theorem cd_X6_join : Cond.code yX6_join cX6_join 8 (some .int) ∈ gTbl := gTbl_of (in_4 (List.mem_of_getElem? (i := 206) rfl)) rfl
theorem ml_L_96 : Cond.methodLink RL 96 yX6_way ∈ gTbl := gTbl_of (in_4 (List.mem_of_getElem? (i := 207) (by decide +kernel))) rfl
theorem im_X6_way : Cond.instanceMethod yX6_way ∈ gTbl := gTbl_of (in_4 (List.mem_of_getElem? (i := 208) (by decide +kernel))) rfl
theorem sl_X6_way : Cond.selects RX6 yX6_way yX6_way ∈ gTbl := gTbl_of (in_4 (List.mem_of_getElem? (i := 209) (by decide +kernel))) rfl
theorem cd_X6_way : Cond.code yX6_way cX6_way 5 (some .int) ∈ gTbl := gTbl_of (in_4 (List.mem_of_getElem? (i := 210) rfl)) rfl
theorem ml_X6_231 : Cond.methodLink RX6 231 yX6_wayBits ∈ gTbl := gTbl_of (in_4 (List.mem_of_getElem? (i := 211) (by decide +kernel))) rfl
theorem im_X6_wayBits : Cond.instanceMethod yX6_wayBits ∈ gTbl := gTbl_of (in_4 (List.mem_of_getElem? (i := 213) (by decide +kernel))) rfl
theorem cd_X6_wayBits : Cond.code yX6_wayBits cX6_wayBits 4 (some .int) ∈ gTbl := gTbl_of (in_4 (List.mem_of_getElem? (i := 214) rfl)) rfl
theorem ml_L_100 : Cond.methodLink RL 100 yX6_whichBlocked ∈ gTbl := gTbl_of (in_4 (List.mem_of_getElem? (i := 215) (by decide +kernel))) rfl
theorem im_X6_whichBlocked : Cond.instanceMethod yX6_whichBlocked ∈ gTbl := gTbl_of (in_4 (List.mem_of_getElem? (i := 216) (by decide +kernel))) rfl
theorem sl_X6_whichBlocked : Cond.selects RX6 yX6_whichBlocked yX6_whichBlocked ∈ gTbl := gTbl_of (in_4 (List.mem_of_getElem? (i := 217) (by decide +kernel))) rfl
theorem cd_X6_whichBlocked : Cond.code yX6_whichBlocked cX6_whichBlocked 3 (some .int) ∈ gTbl := gTbl_of (in_4 (List.mem_of_getElem? (i := 218) rfl)) rfl
theorem ml_X6_237 : Cond.methodLink RX6 237 yX6_isRow ∈ gTbl := gTbl_of (in_4 (List.mem_of_getElem? (i := 219) (by decide +kernel))) rfl
theorem im_X6_isRow : Cond.instanceMethod yX6_isRow ∈ gTbl := gTbl_of (in_4 (List.mem_of_getElem? (i := 221) (by decide +kernel))) rfl
theorem cd_X6_isRow : Cond.code yX6_isRow cX6_isRow 3 (some .boolean) ∈ gTbl := gTbl_of (in_4 (List.mem_of_getElem? (i := 222) rfl)) rfl
theorem ml_L_104 : Cond.methodLink RL 104 yX6_wasPoured ∈ gTbl := gTbl_of (in_4 (List.mem_of_getElem? (i := 223) (by decide +kernel))) rfl
theorem im_X6_wasPoured : Cond.instanceMethod yX6_wasPoured ∈ gTbl := gTbl_of (in_4 (List.mem_of_getElem? (i := 224) (by decide +kernel))) rfl
theorem sl_X6_wasPoured : Cond.selects RX6 yX6_wasPoured yX6_wasPoured ∈ gTbl := gTbl_of (in_4 (List.mem_of_getElem? (i := 225) (by decide +kernel))) rfl
theorem cd_X6_wasPoured : Cond.code yX6_wasPoured cX6_wasPoured 8 (some .int) ∈ gTbl := gTbl_of (in_4 (List.mem_of_getElem? (i := 226) rfl)) rfl
theorem ml_L_108 : Cond.methodLink RL 108 yX6_whatKind ∈ gTbl := gTbl_of (in_4 (List.mem_of_getElem? (i := 227) (by decide +kernel))) rfl
theorem im_X6_whatKind : Cond.instanceMethod yX6_whatKind ∈ gTbl := gTbl_of (in_4 (List.mem_of_getElem? (i := 228) (by decide +kernel))) rfl
theorem sl_X6_whatKind : Cond.selects RX6 yX6_whatKind yX6_whatKind ∈ gTbl := gTbl_of (in_4 (List.mem_of_getElem? (i := 229) (by decide +kernel))) rfl
theorem cd_X6_whatKind : Cond.code yX6_whatKind cX6_whatKind 6 (some .int) ∈ gTbl := gTbl_of (in_4 (List.mem_of_getElem? (i := 230) rfl)) rfl
theorem ml_L_112 : Cond.methodLink RL 112 yX6_two ∈ gTbl := gTbl_of (in_4 (List.mem_of_getElem? (i := 231) (by decide +kernel))) rfl
theorem im_X6_two : Cond.instanceMethod yX6_two ∈ gTbl := gTbl_of (in_4 (List.mem_of_getElem? (i := 232) (by decide +kernel))) rfl
theorem sl_X6_two : Cond.selects RX6 yX6_two yX6_two ∈ gTbl := gTbl_of (in_4 (List.mem_of_getElem? (i := 233) (by decide +kernel))) rfl
theorem cd_X6_two : Cond.code yX6_two cX6_two 8 (some .int) ∈ gTbl := gTbl_of (in_4 (List.mem_of_getElem? (i := 234) rfl)) rfl
theorem ml_L_117 : Cond.methodLink RL 117 yX6_blocked ∈ gTbl := gTbl_of (in_4 (List.mem_of_getElem? (i := 235) (by decide +kernel))) rfl
theorem im_X6_blocked : Cond.instanceMethod yX6_blocked ∈ gTbl := gTbl_of (in_4 (List.mem_of_getElem? (i := 236) (by decide +kernel))) rfl
theorem sl_X6_blocked : Cond.selects RX6 yX6_blocked yX6_blocked ∈ gTbl := gTbl_of (in_4 (List.mem_of_getElem? (i := 237) (by decide +kernel))) rfl
theorem cd_X6_blocked : Cond.code yX6_blocked cX6_blocked 14 (some .long) ∈ gTbl := gTbl_of (in_4 (List.mem_of_getElem? (i := 238) rfl)) rfl
theorem ct_X6_244 : Cond.constantLong RX6 244 (4000000000000000000) ∈ gTbl := gTbl_of (in_4 (List.mem_of_getElem? (i := 239) (by decide +kernel))) rfl
theorem ml_X6_246 : Cond.methodLink RX6 246 yX6_partOf ∈ gTbl := gTbl_of (in_5 (List.mem_of_getElem? (i := 0) (by decide +kernel))) rfl
theorem sm_X6_partOf : Cond.static yX6_partOf ∈ gTbl := gTbl_of (in_5 (List.mem_of_getElem? (i := 1) (by decide +kernel))) rfl
theorem cd_X6_partOf : Cond.code yX6_partOf cX6_partOf 7 (some .long) ∈ gTbl := gTbl_of (in_5 (List.mem_of_getElem? (i := 2) rfl)) rfl
theorem ml_X6_240 : Cond.methodLink RX6 240 yX6_divisor ∈ gTbl := gTbl_of (in_5 (List.mem_of_getElem? (i := 3) (by decide +kernel))) rfl
theorem sm_X6_divisor : Cond.static yX6_divisor ∈ gTbl := gTbl_of (in_5 (List.mem_of_getElem? (i := 4) (by decide +kernel))) rfl
theorem cd_X6_divisor : Cond.code yX6_divisor cX6_divisor 10 (some .long) ∈ gTbl := gTbl_of (in_5 (List.mem_of_getElem? (i := 5) rfl)) rfl
theorem ml_L_121 : Cond.methodLink RL 121 yX6_shares ∈ gTbl := gTbl_of (in_5 (List.mem_of_getElem? (i := 6) (by decide +kernel))) rfl
theorem im_X6_shares : Cond.instanceMethod yX6_shares ∈ gTbl := gTbl_of (in_5 (List.mem_of_getElem? (i := 7) (by decide +kernel))) rfl
theorem sl_X6_shares : Cond.selects RX6 yX6_shares yX6_shares ∈ gTbl := gTbl_of (in_5 (List.mem_of_getElem? (i := 8) (by decide +kernel))) rfl
theorem cd_X6_shares : Cond.code yX6_shares cX6_shares 4 (some .int) ∈ gTbl := gTbl_of (in_5 (List.mem_of_getElem? (i := 9) rfl)) rfl
theorem ml_L_125 : Cond.methodLink RL 125 yX6_fullest ∈ gTbl := gTbl_of (in_5 (List.mem_of_getElem? (i := 10) (by decide +kernel))) rfl
theorem im_X6_fullest : Cond.instanceMethod yX6_fullest ∈ gTbl := gTbl_of (in_5 (List.mem_of_getElem? (i := 11) (by decide +kernel))) rfl
theorem sl_X6_fullest : Cond.selects RX6 yX6_fullest yX6_fullest ∈ gTbl := gTbl_of (in_5 (List.mem_of_getElem? (i := 12) (by decide +kernel))) rfl
theorem cd_X6_fullest : Cond.code yX6_fullest cX6_fullest 2 (some .int) ∈ gTbl := gTbl_of (in_5 (List.mem_of_getElem? (i := 13) rfl)) rfl
theorem ml_X6_250 : Cond.methodLink RX6 250 yX6_fullestOne ∈ gTbl := gTbl_of (in_5 (List.mem_of_getElem? (i := 14) (by decide +kernel))) rfl
theorem im_X6_fullestOne : Cond.instanceMethod yX6_fullestOne ∈ gTbl := gTbl_of (in_5 (List.mem_of_getElem? (i := 16) (by decide +kernel))) rfl
theorem cd_X6_fullestOne : Cond.code yX6_fullestOne cX6_fullestOne 3 (some .int) ∈ gTbl := gTbl_of (in_5 (List.mem_of_getElem? (i := 17) rfl)) rfl
theorem ml_X6_253 : Cond.methodLink RX6 253 yX6_pumpBits ∈ gTbl := gTbl_of (in_5 (List.mem_of_getElem? (i := 18) (by decide +kernel))) rfl
theorem im_X6_pumpBits : Cond.instanceMethod yX6_pumpBits ∈ gTbl := gTbl_of (in_5 (List.mem_of_getElem? (i := 20) (by decide +kernel))) rfl
theorem cd_X6_pumpBits : Cond.code yX6_pumpBits cX6_pumpBits 3 (some .int) ∈ gTbl := gTbl_of (in_5 (List.mem_of_getElem? (i := 21) rfl)) rfl
theorem ml_X6_256 : Cond.methodLink RX6 256 yX6_deepest ∈ gTbl := gTbl_of (in_5 (List.mem_of_getElem? (i := 22) (by decide +kernel))) rfl
theorem im_X6_deepest : Cond.instanceMethod yX6_deepest ∈ gTbl := gTbl_of (in_5 (List.mem_of_getElem? (i := 24) (by decide +kernel))) rfl
theorem cd_X6_deepest : Cond.code yX6_deepest cX6_deepest 3 (some .int) ∈ gTbl := gTbl_of (in_5 (List.mem_of_getElem? (i := 25) rfl)) rfl
theorem ml_X6_259 : Cond.methodLink RX6 259 yX6_longestStill ∈ gTbl := gTbl_of (in_5 (List.mem_of_getElem? (i := 26) (by decide +kernel))) rfl
theorem im_X6_longestStill : Cond.instanceMethod yX6_longestStill ∈ gTbl := gTbl_of (in_5 (List.mem_of_getElem? (i := 28) (by decide +kernel))) rfl
theorem cd_X6_longestStill : Cond.code yX6_longestStill cX6_longestStill 4 (some .int) ∈ gTbl := gTbl_of (in_5 (List.mem_of_getElem? (i := 29) rfl)) rfl
theorem ml_X6_262 : Cond.methodLink RX6 262 yX6_twinTwos ∈ gTbl := gTbl_of (in_5 (List.mem_of_getElem? (i := 30) (by decide +kernel))) rfl
theorem im_X6_twinTwos : Cond.instanceMethod yX6_twinTwos ∈ gTbl := gTbl_of (in_5 (List.mem_of_getElem? (i := 32) (by decide +kernel))) rfl
theorem cd_X6_twinTwos : Cond.code yX6_twinTwos cX6_twinTwos 4 (some .int) ∈ gTbl := gTbl_of (in_5 (List.mem_of_getElem? (i := 33) rfl)) rfl
theorem ml_L_129 : Cond.methodLink RL 129 yX6_into ∈ gTbl := gTbl_of (in_5 (List.mem_of_getElem? (i := 34) (by decide +kernel))) rfl
theorem im_X6_into : Cond.instanceMethod yX6_into ∈ gTbl := gTbl_of (in_5 (List.mem_of_getElem? (i := 35) (by decide +kernel))) rfl
theorem sl_X6_into : Cond.selects RX6 yX6_into yX6_into ∈ gTbl := gTbl_of (in_5 (List.mem_of_getElem? (i := 36) (by decide +kernel))) rfl
theorem cd_X6_into : Cond.code yX6_into cX6_into 4 (some .int) ∈ gTbl := gTbl_of (in_5 (List.mem_of_getElem? (i := 37) rfl)) rfl
theorem ml_L_134 : Cond.methodLink RL 134 yX6_mean ∈ gTbl := gTbl_of (in_5 (List.mem_of_getElem? (i := 38) (by decide +kernel))) rfl
theorem im_X6_mean : Cond.instanceMethod yX6_mean ∈ gTbl := gTbl_of (in_5 (List.mem_of_getElem? (i := 39) (by decide +kernel))) rfl
theorem sl_X6_mean : Cond.selects RX6 yX6_mean yX6_mean ∈ gTbl := gTbl_of (in_5 (List.mem_of_getElem? (i := 40) (by decide +kernel))) rfl
theorem cd_X6_mean : Cond.code yX6_mean cX6_mean 2 (some .long) ∈ gTbl := gTbl_of (in_5 (List.mem_of_getElem? (i := 41) rfl)) rfl
theorem ml_L_138 : Cond.methodLink RL 138 yX6_strong ∈ gTbl := gTbl_of (in_5 (List.mem_of_getElem? (i := 42) (by decide +kernel))) rfl
theorem im_X6_strong : Cond.instanceMethod yX6_strong ∈ gTbl := gTbl_of (in_5 (List.mem_of_getElem? (i := 43) (by decide +kernel))) rfl
theorem sl_X6_strong : Cond.selects RX6 yX6_strong yX6_strong ∈ gTbl := gTbl_of (in_5 (List.mem_of_getElem? (i := 44) (by decide +kernel))) rfl
theorem cd_X6_strong : Cond.code yX6_strong cX6_strong 4 (some .int) ∈ gTbl := gTbl_of (in_5 (List.mem_of_getElem? (i := 45) rfl)) rfl
theorem ct_X6_265 : Cond.constant RX6 265 (1000000000) ∈ gTbl := gTbl_of (in_5 (List.mem_of_getElem? (i := 46) (by decide +kernel))) rfl
theorem ml_L_142 : Cond.methodLink RL 142 yX6_kinds ∈ gTbl := gTbl_of (in_5 (List.mem_of_getElem? (i := 47) (by decide +kernel))) rfl
theorem im_X6_kinds : Cond.instanceMethod yX6_kinds ∈ gTbl := gTbl_of (in_5 (List.mem_of_getElem? (i := 48) (by decide +kernel))) rfl
theorem sl_X6_kinds : Cond.selects RX6 yX6_kinds yX6_kinds ∈ gTbl := gTbl_of (in_5 (List.mem_of_getElem? (i := 49) (by decide +kernel))) rfl
theorem cd_X6_kinds : Cond.code yX6_kinds cX6_kinds 4 (some .int) ∈ gTbl := gTbl_of (in_5 (List.mem_of_getElem? (i := 50) rfl)) rfl
theorem ml_L_146 : Cond.methodLink RL 146 yX6_turn ∈ gTbl := gTbl_of (in_5 (List.mem_of_getElem? (i := 51) (by decide +kernel))) rfl
theorem im_X6_turn : Cond.instanceMethod yX6_turn ∈ gTbl := gTbl_of (in_5 (List.mem_of_getElem? (i := 52) (by decide +kernel))) rfl
theorem sl_X6_turn : Cond.selects RX6 yX6_turn yX6_turn ∈ gTbl := gTbl_of (in_5 (List.mem_of_getElem? (i := 53) (by decide +kernel))) rfl
theorem cd_X6_turn : Cond.code yX6_turn cX6_turn 8 (some .int) ∈ gTbl := gTbl_of (in_5 (List.mem_of_getElem? (i := 54) rfl)) rfl
theorem ml_L_150 : Cond.methodLink RL 150 yX6_row ∈ gTbl := gTbl_of (in_5 (List.mem_of_getElem? (i := 55) (by decide +kernel))) rfl
theorem im_X6_row : Cond.instanceMethod yX6_row ∈ gTbl := gTbl_of (in_5 (List.mem_of_getElem? (i := 56) (by decide +kernel))) rfl
theorem sl_X6_row : Cond.selects RX6 yX6_row yX6_row ∈ gTbl := gTbl_of (in_5 (List.mem_of_getElem? (i := 57) (by decide +kernel))) rfl
theorem cd_X6_row : Cond.code yX6_row cX6_row 2 (some .int) ∈ gTbl := gTbl_of (in_5 (List.mem_of_getElem? (i := 58) rfl)) rfl
theorem ml_L_154 : Cond.methodLink RL 154 yX6_judge ∈ gTbl := gTbl_of (in_5 (List.mem_of_getElem? (i := 59) (by decide +kernel))) rfl
theorem im_X6_judge : Cond.instanceMethod yX6_judge ∈ gTbl := gTbl_of (in_5 (List.mem_of_getElem? (i := 60) (by decide +kernel))) rfl
theorem sl_X6_judge : Cond.selects RX6 yX6_judge yX6_judge ∈ gTbl := gTbl_of (in_5 (List.mem_of_getElem? (i := 61) (by decide +kernel))) rfl
theorem cd_X6_judge : Cond.code yX6_judge cX6_judge 3 (some .int) ∈ gTbl := gTbl_of (in_5 (List.mem_of_getElem? (i := 62) rfl)) rfl
theorem ml_L_158 : Cond.methodLink RL 158 yX6_clear ∈ gTbl := gTbl_of (in_5 (List.mem_of_getElem? (i := 63) (by decide +kernel))) rfl
theorem im_X6_clear : Cond.instanceMethod yX6_clear ∈ gTbl := gTbl_of (in_5 (List.mem_of_getElem? (i := 64) (by decide +kernel))) rfl
theorem sl_X6_clear : Cond.selects RX6 yX6_clear yX6_clear ∈ gTbl := gTbl_of (in_5 (List.mem_of_getElem? (i := 65) (by decide +kernel))) rfl
theorem cd_X6_clear : Cond.code yX6_clear cX6_clear 2 (some .int) ∈ gTbl := gTbl_of (in_5 (List.mem_of_getElem? (i := 66) rfl)) rfl
theorem ml_L_162 : Cond.methodLink RL 162 yX6_lots ∈ gTbl := gTbl_of (in_5 (List.mem_of_getElem? (i := 67) (by decide +kernel))) rfl
theorem im_X6_lots : Cond.instanceMethod yX6_lots ∈ gTbl := gTbl_of (in_5 (List.mem_of_getElem? (i := 68) (by decide +kernel))) rfl
theorem sl_X6_lots : Cond.selects RX6 yX6_lots yX6_lots ∈ gTbl := gTbl_of (in_5 (List.mem_of_getElem? (i := 69) (by decide +kernel))) rfl
theorem cd_X6_lots : Cond.code yX6_lots cX6_lots 10 (some .int) ∈ gTbl := gTbl_of (in_5 (List.mem_of_getElem? (i := 70) rfl)) rfl
theorem ml_X6_272 : Cond.methodLink RX6 272 yX6_drawBelow ∈ gTbl := gTbl_of (in_5 (List.mem_of_getElem? (i := 71) (by decide +kernel))) rfl
theorem im_X6_drawBelow : Cond.instanceMethod yX6_drawBelow ∈ gTbl := gTbl_of (in_5 (List.mem_of_getElem? (i := 73) (by decide +kernel))) rfl
theorem cd_X6_drawBelow : Cond.code yX6_drawBelow cX6_drawBelow 2 (some .int) ∈ gTbl := gTbl_of (in_5 (List.mem_of_getElem? (i := 74) rfl)) rfl
theorem ct_X6_269 : Cond.constant RX6 269 (1103515245) ∈ gTbl := gTbl_of (in_5 (List.mem_of_getElem? (i := 75) (by decide +kernel))) rfl
theorem ct_X6_270 : Cond.constant RX6 270 (2147483647) ∈ gTbl := gTbl_of (in_5 (List.mem_of_getElem? (i := 76) (by decide +kernel))) rfl
theorem ct_X6_271 : Cond.constant RX6 271 (65536) ∈ gTbl := gTbl_of (in_5 (List.mem_of_getElem? (i := 77) (by decide +kernel))) rfl
theorem ml_L_174 : Cond.methodLink RL 174 yX6_count ∈ gTbl := gTbl_of (in_5 (List.mem_of_getElem? (i := 78) (by decide +kernel))) rfl
theorem im_X6_count : Cond.instanceMethod yX6_count ∈ gTbl := gTbl_of (in_5 (List.mem_of_getElem? (i := 79) (by decide +kernel))) rfl
theorem sl_X6_count : Cond.selects RX6 yX6_count yX6_count ∈ gTbl := gTbl_of (in_5 (List.mem_of_getElem? (i := 80) (by decide +kernel))) rfl
theorem cd_X6_count : Cond.code yX6_count cX6_count 2 (some .int) ∈ gTbl := gTbl_of (in_5 (List.mem_of_getElem? (i := 81) rfl)) rfl
theorem ct_X6_275 : Cond.constantLong RX6 275 (11) ∈ gTbl := gTbl_of (in_5 (List.mem_of_getElem? (i := 82) (by decide +kernel))) rfl
theorem ct_X6_277 : Cond.constantLong RX6 277 (16) ∈ gTbl := gTbl_of (in_5 (List.mem_of_getElem? (i := 83) (by decide +kernel))) rfl
theorem sl_X5_refuse : Cond.selects RX5 yX5_refuse yX5_refuse ∈ gTbl := gTbl_of (in_p (List.mem_of_getElem? (i := 0) (by decide +kernel))) rfl
theorem sl_X5_tellAll : Cond.selects RX5 yX5_tellAll yX5_tellAll ∈ gTbl := gTbl_of (in_p (List.mem_of_getElem? (i := 1) (by decide +kernel))) rfl
theorem sl_X5_think : Cond.selects RX5 yX5_think yX5_think ∈ gTbl := gTbl_of (in_p (List.mem_of_getElem? (i := 2) (by decide +kernel))) rfl
theorem sl_X5_tell : Cond.selects RX5 yX5_tell yX5_tell ∈ gTbl := gTbl_of (in_p (List.mem_of_getElem? (i := 3) (by decide +kernel))) rfl
theorem sl_X5_firstDrip : Cond.selects RX5 yX5_firstDrip yX5_firstDrip ∈ gTbl := gTbl_of (in_p (List.mem_of_getElem? (i := 4) (by decide +kernel))) rfl
theorem sl_X5_driedAfter : Cond.selects RX5 yX5_driedAfter yX5_driedAfter ∈ gTbl := gTbl_of (in_p (List.mem_of_getElem? (i := 5) (by decide +kernel))) rfl
theorem sl_X5_settledAfter : Cond.selects RX5 yX5_settledAfter yX5_settledAfter ∈ gTbl := gTbl_of (in_p (List.mem_of_getElem? (i := 6) (by decide +kernel))) rfl
theorem sl_X5_cupBehind : Cond.selects RX5 yX5_cupBehind yX5_cupBehind ∈ gTbl := gTbl_of (in_p (List.mem_of_getElem? (i := 7) (by decide +kernel))) rfl
theorem sl_X5_rowTellsCup : Cond.selects RX5 yX5_rowTellsCup yX5_rowTellsCup ∈ gTbl := gTbl_of (in_p (List.mem_of_getElem? (i := 8) (by decide +kernel))) rfl
theorem sl_X5_kindsTold : Cond.selects RX5 yX5_kindsTold yX5_kindsTold ∈ gTbl := gTbl_of (in_p (List.mem_of_getElem? (i := 9) (by decide +kernel))) rfl
theorem sl_X5_figuresTold : Cond.selects RX5 yX5_figuresTold yX5_figuresTold ∈ gTbl := gTbl_of (in_p (List.mem_of_getElem? (i := 10) (by decide +kernel))) rfl
theorem sl_X5_isContent : Cond.selects RX5 yX5_isContent yX5_isContent ∈ gTbl := gTbl_of (in_p (List.mem_of_getElem? (i := 11) (by decide +kernel))) rfl
theorem sl_X5_gain : Cond.selects RX5 yX5_gain yX5_gain ∈ gTbl := gTbl_of (in_p (List.mem_of_getElem? (i := 12) (by decide +kernel))) rfl
theorem sl_X5_refuseLong : Cond.selects RX5 yX5_refuseLong yX5_refuseLong ∈ gTbl := gTbl_of (in_p (List.mem_of_getElem? (i := 13) (by decide +kernel))) rfl
theorem sl_X5_houseHoldingMost : Cond.selects RX5 yX5_houseHoldingMost yX5_houseHoldingMost ∈ gTbl := gTbl_of (in_p (List.mem_of_getElem? (i := 14) (by decide +kernel))) rfl
theorem sl_X5_housesAtCup : Cond.selects RX5 yX5_housesAtCup yX5_housesAtCup ∈ gTbl := gTbl_of (in_p (List.mem_of_getElem? (i := 15) (by decide +kernel))) rfl
theorem sl_X5_longestWay : Cond.selects RX5 yX5_longestWay yX5_longestWay ∈ gTbl := gTbl_of (in_p (List.mem_of_getElem? (i := 16) (by decide +kernel))) rfl
theorem sl_X5_longestStill : Cond.selects RX5 yX5_longestStill yX5_longestStill ∈ gTbl := gTbl_of (in_p (List.mem_of_getElem? (i := 17) (by decide +kernel))) rfl
theorem sl_X5_twins : Cond.selects RX5 yX5_twins yX5_twins ∈ gTbl := gTbl_of (in_p (List.mem_of_getElem? (i := 18) (by decide +kernel))) rfl
theorem sl_X5_liveWeek : Cond.selects RX5 yX5_liveWeek yX5_liveWeek ∈ gTbl := gTbl_of (in_p (List.mem_of_getElem? (i := 19) (by decide +kernel))) rfl
theorem sl_X5_refusalsCounted : Cond.selects RX5 yX5_refusalsCounted yX5_refusalsCounted ∈ gTbl := gTbl_of (in_p (List.mem_of_getElem? (i := 20) (by decide +kernel))) rfl
theorem sl_X6_refuse : Cond.selects RX6 yX6_refuse yX6_refuse ∈ gTbl := gTbl_of (in_p (List.mem_of_getElem? (i := 21) (by decide +kernel))) rfl
theorem sl_X6_readStatement : Cond.selects RX6 yX6_readStatement yX6_readStatement ∈ gTbl := gTbl_of (in_p (List.mem_of_getElem? (i := 22) (by decide +kernel))) rfl
theorem sl_X6_here : Cond.selects RX6 yX6_here yX6_here ∈ gTbl := gTbl_of (in_p (List.mem_of_getElem? (i := 23) (by decide +kernel))) rfl
theorem sl_X6_readNumbers : Cond.selects RX6 yX6_readNumbers yX6_readNumbers ∈ gTbl := gTbl_of (in_p (List.mem_of_getElem? (i := 24) (by decide +kernel))) rfl
theorem sl_X6_readDigits : Cond.selects RX6 yX6_readDigits yX6_readDigits ∈ gTbl := gTbl_of (in_p (List.mem_of_getElem? (i := 25) (by decide +kernel))) rfl
theorem sl_X6_think : Cond.selects RX6 yX6_think yX6_think ∈ gTbl := gTbl_of (in_p (List.mem_of_getElem? (i := 26) (by decide +kernel))) rfl
theorem sl_X6_carryAll : Cond.selects RX6 yX6_carryAll yX6_carryAll ∈ gTbl := gTbl_of (in_p (List.mem_of_getElem? (i := 27) (by decide +kernel))) rfl
theorem sl_X6_carry : Cond.selects RX6 yX6_carry yX6_carry ∈ gTbl := gTbl_of (in_p (List.mem_of_getElem? (i := 28) (by decide +kernel))) rfl
theorem sl_X6_comesTold : Cond.selects RX6 yX6_comesTold yX6_comesTold ∈ gTbl := gTbl_of (in_p (List.mem_of_getElem? (i := 29) (by decide +kernel))) rfl
theorem sl_X6_isHouse : Cond.selects RX6 yX6_isHouse yX6_isHouse ∈ gTbl := gTbl_of (in_p (List.mem_of_getElem? (i := 30) (by decide +kernel))) rfl
theorem sl_X6_houseComes : Cond.selects RX6 yX6_houseComes yX6_houseComes ∈ gTbl := gTbl_of (in_p (List.mem_of_getElem? (i := 31) (by decide +kernel))) rfl
theorem sl_X6_pourIn : Cond.selects RX6 yX6_pourIn yX6_pourIn ∈ gTbl := gTbl_of (in_p (List.mem_of_getElem? (i := 32) (by decide +kernel))) rfl
theorem sl_X6_hoursTold : Cond.selects RX6 yX6_hoursTold yX6_hoursTold ∈ gTbl := gTbl_of (in_p (List.mem_of_getElem? (i := 33) (by decide +kernel))) rfl
theorem sl_X6_goHours : Cond.selects RX6 yX6_goHours yX6_goHours ∈ gTbl := gTbl_of (in_p (List.mem_of_getElem? (i := 34) (by decide +kernel))) rfl
theorem sl_X6_hourBy : Cond.selects RX6 yX6_hourBy yX6_hourBy ∈ gTbl := gTbl_of (in_p (List.mem_of_getElem? (i := 35) (by decide +kernel))) rfl
theorem sl_X6_letsOf : Cond.selects RX6 yX6_letsOf yX6_letsOf ∈ gTbl := gTbl_of (in_p (List.mem_of_getElem? (i := 36) (by decide +kernel))) rfl
theorem sl_X6_addsOf : Cond.selects RX6 yX6_addsOf yX6_addsOf ∈ gTbl := gTbl_of (in_p (List.mem_of_getElem? (i := 37) (by decide +kernel))) rfl
theorem sl_X6_again : Cond.selects RX6 yX6_again yX6_again ∈ gTbl := gTbl_of (in_p (List.mem_of_getElem? (i := 38) (by decide +kernel))) rfl
theorem sl_X6_letNext : Cond.selects RX6 yX6_letNext yX6_letNext ∈ gTbl := gTbl_of (in_p (List.mem_of_getElem? (i := 39) (by decide +kernel))) rfl
theorem sl_X6_keepTurn : Cond.selects RX6 yX6_keepTurn yX6_keepTurn ∈ gTbl := gTbl_of (in_p (List.mem_of_getElem? (i := 40) (by decide +kernel))) rfl
theorem sl_X6_allHold : Cond.selects RX6 yX6_allHold yX6_allHold ∈ gTbl := gTbl_of (in_p (List.mem_of_getElem? (i := 41) (by decide +kernel))) rfl
theorem sl_X6_firstDrip : Cond.selects RX6 yX6_firstDrip yX6_firstDrip ∈ gTbl := gTbl_of (in_p (List.mem_of_getElem? (i := 42) (by decide +kernel))) rfl
theorem sl_X6_dryIn : Cond.selects RX6 yX6_dryIn yX6_dryIn ∈ gTbl := gTbl_of (in_p (List.mem_of_getElem? (i := 43) (by decide +kernel))) rfl
theorem sl_X6_settledIn : Cond.selects RX6 yX6_settledIn yX6_settledIn ∈ gTbl := gTbl_of (in_p (List.mem_of_getElem? (i := 44) (by decide +kernel))) rfl
theorem sl_X6_isAsHad : Cond.selects RX6 yX6_isAsHad yX6_isAsHad ∈ gTbl := gTbl_of (in_p (List.mem_of_getElem? (i := 45) (by decide +kernel))) rfl
theorem sl_X6_cupThen : Cond.selects RX6 yX6_cupThen yX6_cupThen ∈ gTbl := gTbl_of (in_p (List.mem_of_getElem? (i := 46) (by decide +kernel))) rfl
theorem sl_X6_wayBits : Cond.selects RX6 yX6_wayBits yX6_wayBits ∈ gTbl := gTbl_of (in_p (List.mem_of_getElem? (i := 47) (by decide +kernel))) rfl
theorem sl_X6_isRow : Cond.selects RX6 yX6_isRow yX6_isRow ∈ gTbl := gTbl_of (in_p (List.mem_of_getElem? (i := 48) (by decide +kernel))) rfl
theorem sl_X6_fullestOne : Cond.selects RX6 yX6_fullestOne yX6_fullestOne ∈ gTbl := gTbl_of (in_p (List.mem_of_getElem? (i := 49) (by decide +kernel))) rfl
theorem sl_X6_pumpBits : Cond.selects RX6 yX6_pumpBits yX6_pumpBits ∈ gTbl := gTbl_of (in_p (List.mem_of_getElem? (i := 50) (by decide +kernel))) rfl
theorem sl_X6_deepest : Cond.selects RX6 yX6_deepest yX6_deepest ∈ gTbl := gTbl_of (in_p (List.mem_of_getElem? (i := 51) (by decide +kernel))) rfl
theorem sl_X6_longestStill : Cond.selects RX6 yX6_longestStill yX6_longestStill ∈ gTbl := gTbl_of (in_p (List.mem_of_getElem? (i := 52) (by decide +kernel))) rfl
theorem sl_X6_twinTwos : Cond.selects RX6 yX6_twinTwos yX6_twinTwos ∈ gTbl := gTbl_of (in_p (List.mem_of_getElem? (i := 53) (by decide +kernel))) rfl
theorem sl_X6_drawBelow : Cond.selects RX6 yX6_drawBelow yX6_drawBelow ∈ gTbl := gTbl_of (in_p (List.mem_of_getElem? (i := 54) (by decide +kernel))) rfl
theorem inw_X1 : ∀ w ∈ u_ws RX1 TX1 2, w ∈ gTbl := fun w h => by
  have h1 : ∀ w ∈ u_ws RX1 TX1 2, w ∈ lw_tbl ∧ goodWord w = true := by decide +kernel
  exact gTbl_of (h1 w h).1 (h1 w h).2
theorem inw_X2 : ∀ w ∈ u_ws RX2 TX2 2, w ∈ gTbl := fun w h => by
  have h1 : ∀ w ∈ u_ws RX2 TX2 2, w ∈ lw_tbl ∧ goodWord w = true := by decide +kernel
  exact gTbl_of (h1 w h).1 (h1 w h).2
theorem inw_X3 : ∀ w ∈ u_ws RX3 TX3 10, w ∈ gTbl := fun w h => by
  have h1 : ∀ w ∈ u_ws RX3 TX3 10, w ∈ lw_tbl ∧ goodWord w = true := by decide +kernel
  exact gTbl_of (h1 w h).1 (h1 w h).2
theorem inw_X4 : ∀ w ∈ u_ws RX4 TX4 3, w ∈ gTbl := fun w h => by
  have h1 : ∀ w ∈ u_ws RX4 TX4 3, w ∈ lw_tbl ∧ goodWord w = true := by decide +kernel
  exact gTbl_of (h1 w h).1 (h1 w h).2
theorem inw_X5 : ∀ w ∈ u_ws RX5 TX5 8, w ∈ gTbl := fun w h => by
  have h1 : ∀ w ∈ u_ws RX5 TX5 8, w ∈ lw_tbl ∧ goodWord w = true := by decide +kernel
  exact gTbl_of (h1 w h).1 (h1 w h).2
theorem inw_X6 : ∀ w ∈ u_ws RX6 TX6 34, w ∈ gTbl := fun w h => by
  have h1 : ∀ w ∈ u_ws RX6 TX6 34, w ∈ lw_tbl ∧ goodWord w = true := by decide +kernel
  exact gTbl_of (h1 w h).1 (h1 w h).2
