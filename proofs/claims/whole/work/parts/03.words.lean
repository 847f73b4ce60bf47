theorem qf_X3_9 : Cond.fieldLink "ThrowRows$Row" 9 "ThrowRows$Row" "heights" "[I" ∈ gTB := gTB_at 68 rfl rfl
theorem qf_X3_15 : Cond.fieldLink "ThrowRows$Row" 15 "ThrowRows$Row" "period" "I" ∈ gTB := gTB_at 69 rfl rfl
theorem qf_X1_9 : Cond.fieldLink "ThrowRows$Flight" 9 "ThrowRows$Flight" "landing" "[I" ∈ gTB := gTB_at 86 rfl rfl
theorem qf_X1_21 : Cond.fieldLink "ThrowRows$Flight" 21 "ThrowRows$Flight" "seen" "I" ∈ gTB := gTB_at 87 rfl rfl
theorem qf_X2_9 : Cond.fieldLink "ThrowRows$Kinds" 9 "ThrowRows$Kinds" "kinds" "[I" ∈ gTB := gTB_at 99 rfl rfl
theorem qf_X2_45 : Cond.fieldLink "ThrowRows$Kinds" 45 "ThrowRows$Kinds" "traced" "I" ∈ gTB := gTB_at 100 rfl rfl
theorem qf_X5_9 : Cond.fieldLink "ThrowRows$Ways" 9 "ThrowRows$Ways" "beats" "[I" ∈ gTB := gTB_at 113 rfl rfl
theorem qf_X5_15 : Cond.fieldLink "ThrowRows$Ways" 15 "ThrowRows$Ways" "reached" "[I" ∈ gTB := gTB_at 114 rfl rfl
theorem qf_X5_24 : Cond.fieldLink "ThrowRows$Ways" 24 "ThrowRows$Ways" "reachedCount" "I" ∈ gTB := gTB_at 115 rfl rfl
theorem qf_X0_9 : Cond.fieldLink "ThrowRows$Fillings" 9 "ThrowRows$Fillings" "least" "[I" ∈ gTB := gTB_at 129 rfl rfl
theorem qf_X0_15 : Cond.fieldLink "ThrowRows$Fillings" 15 "ThrowRows$Fillings" "most" "[I" ∈ gTB := gTB_at 130 rfl rfl
theorem qf_X0_18 : Cond.fieldLink "ThrowRows$Fillings" 18 "ThrowRows$Fillings" "counts" "[I" ∈ gTB := gTB_at 131 rfl rfl
theorem qf_X4_9 : Cond.fieldLink "ThrowRows$Sheet" 9 "ThrowRows$Sheet" "cells" "[I" ∈ gTB := gTB_at 144 rfl rfl
theorem qf_X4_15 : Cond.fieldLink "ThrowRows$Sheet" 15 "ThrowRows$Sheet" "length" "I" ∈ gTB := gTB_at 146 rfl rfl
theorem qf_X4_25 : Cond.fieldLink "ThrowRows$Sheet" 25 "ThrowRows$Sheet" "sort" "I" ∈ gTB := gTB_at 147 rfl rfl
theorem qf_X6_12 : Cond.fieldLink "ThrowRows" 12 "ThrowRows" "row" "LThrowRows$Row;" ∈ gTB := gTB_at 156 rfl rfl
theorem qf_X6_18 : Cond.fieldLink "ThrowRows" 18 "ThrowRows" "spare" "LThrowRows$Row;" ∈ gTB := gTB_at 157 rfl rfl
theorem qf_X6_21 : Cond.fieldLink "ThrowRows" 21 "ThrowRows" "images" "[LThrowRows$Row;" ∈ gTB := gTB_at 158 rfl rfl
theorem qf_X6_27 : Cond.fieldLink "ThrowRows" 27 "ThrowRows" "sheets" "[LThrowRows$Sheet;" ∈ gTB := gTB_at 159 rfl rfl
theorem qf_X6_34 : Cond.fieldLink "ThrowRows" 34 "ThrowRows" "flight" "LThrowRows$Flight;" ∈ gTB := gTB_at 160 rfl rfl
theorem qf_X6_41 : Cond.fieldLink "ThrowRows" 41 "ThrowRows" "kinds" "LThrowRows$Kinds;" ∈ gTB := gTB_at 161 rfl rfl
theorem qf_X6_48 : Cond.fieldLink "ThrowRows" 48 "ThrowRows" "ways" "LThrowRows$Ways;" ∈ gTB := gTB_at 162 rfl rfl
theorem qf_X6_55 : Cond.fieldLink "ThrowRows" 55 "ThrowRows" "fillings" "LThrowRows$Fillings;" ∈ gTB := gTB_at 163 rfl rfl
theorem qf_X6_59 : Cond.fieldLink "ThrowRows" 59 "ThrowRows" "handCount" "I" ∈ gTB := gTB_at 164 rfl rfl
theorem qf_X6_215 : Cond.fieldLink "ThrowRows" 215 "ThrowRows" "dropped" "I" ∈ gTB := gTB_at 165 rfl rfl
theorem qf_X6_64 : Cond.fieldLink "ThrowRows" 64 "ThrowRows" "latestFault" "I" ∈ gTB := gTB_at 166 rfl rfl
set_option maxRecDepth 20000 in
theorem qf_X7_50 : Cond.fieldLink "ThrowRowsModel" 50 "ThrowRowsModel" "fault" "I" ∈ gTB := gTB_at 628 rfl rfl
set_option maxRecDepth 20000 in
theorem qf_X7_186 : Cond.fieldLink "ThrowRowsModel" 186 "ThrowRowsModel" "trace" "I" ∈ gTB := gTB_at 629 rfl rfl
set_option maxRecDepth 20000 in
theorem qf_X7_9 : Cond.fieldLink "ThrowRowsModel" 9 "ThrowRowsModel" "sorts" "[I" ∈ gTB := gTB_at 630 rfl rfl
set_option maxRecDepth 20000 in
theorem qf_X7_13 : Cond.fieldLink "ThrowRowsModel" 13 "ThrowRowsModel" "sheetLong" "[I" ∈ gTB := gTB_at 631 rfl rfl
set_option maxRecDepth 20000 in
theorem qf_X7_16 : Cond.fieldLink "ThrowRowsModel" 16 "ThrowRowsModel" "cells" "[I" ∈ gTB := gTB_at 632 rfl rfl
set_option maxRecDepth 20000 in
theorem qf_X7_60 : Cond.fieldLink "ThrowRowsModel" 60 "ThrowRowsModel" "period" "I" ∈ gTB := gTB_at 633 rfl rfl
set_option maxRecDepth 20000 in
theorem qf_X7_19 : Cond.fieldLink "ThrowRowsModel" 19 "ThrowRowsModel" "row" "[I" ∈ gTB := gTB_at 634 rfl rfl
set_option maxRecDepth 20000 in
theorem qf_X7_78 : Cond.fieldLink "ThrowRowsModel" 78 "ThrowRowsModel" "hands" "I" ∈ gTB := gTB_at 635 rfl rfl
set_option maxRecDepth 20000 in
theorem qf_X7_22 : Cond.fieldLink "ThrowRowsModel" 22 "ThrowRowsModel" "kinds" "[I" ∈ gTB := gTB_at 636 rfl rfl
set_option maxRecDepth 20000 in
theorem qf_X7_81 : Cond.fieldLink "ThrowRowsModel" 81 "ThrowRowsModel" "dropped" "I" ∈ gTB := gTB_at 637 rfl rfl
set_option maxRecDepth 20000 in
theorem qf_X7_25 : Cond.fieldLink "ThrowRowsModel" 25 "ThrowRowsModel" "orbits" "[I" ∈ gTB := gTB_at 638 rfl rfl
set_option maxRecDepth 20000 in
theorem qf_X7_28 : Cond.fieldLink "ThrowRowsModel" 28 "ThrowRowsModel" "ballOf" "[I" ∈ gTB := gTB_at 639 rfl rfl
set_option maxRecDepth 20000 in
theorem qf_X7_31 : Cond.fieldLink "ThrowRowsModel" 31 "ThrowRowsModel" "next" "[I" ∈ gTB := gTB_at 640 rfl rfl
set_option maxRecDepth 20000 in
theorem qf_X7_34 : Cond.fieldLink "ThrowRowsModel" 34 "ThrowRowsModel" "imagePeriod" "[I" ∈ gTB := gTB_at 641 rfl rfl
set_option maxRecDepth 20000 in
theorem qf_X7_37 : Cond.fieldLink "ThrowRowsModel" 37 "ThrowRowsModel" "imageRow" "[I" ∈ gTB := gTB_at 642 rfl rfl
set_option maxRecDepth 20000 in
theorem qf_X7_138 : Cond.fieldLink "ThrowRowsModel" 138 "ThrowRowsModel" "openLong" "I" ∈ gTB := gTB_at 643 rfl rfl
set_option maxRecDepth 20000 in
theorem qf_X7_135 : Cond.fieldLink "ThrowRowsModel" 135 "ThrowRowsModel" "openTop" "I" ∈ gTB := gTB_at 644 rfl rfl
set_option maxRecDepth 20000 in
theorem qf_X7_40 : Cond.fieldLink "ThrowRowsModel" 40 "ThrowRowsModel" "open" "[I" ∈ gTB := gTB_at 645 rfl rfl
set_option maxRecDepth 20000 in
theorem qf_X7_43 : Cond.fieldLink "ThrowRowsModel" 43 "ThrowRowsModel" "fills" "[J" ∈ gTB := gTB_at 646 rfl rfl
set_option maxRecDepth 20000 in
theorem qf_X7_47 : Cond.fieldLink "ThrowRowsModel" 47 "ThrowRowsModel" "far" "[I" ∈ gTB := gTB_at 647 rfl rfl
theorem qf_X6_86 : Cond.fieldLinkNest "ThrowRows" 86 "ThrowRows$Row" "period" "I" "ThrowRows" ∈ lw_tbl := List.mem_of_getElem? (i := 70) rfl
theorem qf_X6_257 : Cond.fieldLinkNest "ThrowRows" 257 "ThrowRows$Kinds" "traced" "I" "ThrowRows" ∈ lw_tbl := List.mem_of_getElem? (i := 101) rfl
theorem qf_X6_241 : Cond.fieldLinkNest "ThrowRows" 241 "ThrowRows$Sheet" "cells" "[I" "ThrowRows" ∈ lw_tbl := List.mem_of_getElem? (i := 145) rfl
theorem qf_X6_238 : Cond.fieldLinkNest "ThrowRows" 238 "ThrowRows$Sheet" "sort" "I" "ThrowRows" ∈ lw_tbl := List.mem_of_getElem? (i := 148) rfl
theorem ql_L_9 : Cond.methodLink "ThrowRowsLaw" 9 yX6_init ∈ gTB := gTB_at 56 rfl rfl
theorem ql_X6_3 : Cond.methodLink "ThrowRows" 3 ⟨"java/lang/Object", "<init>", "()V"⟩ ∈ gTB := gTB_at 59 rfl rfl
theorem ql_X3_3 : Cond.methodLink "ThrowRows$Row" 3 ⟨"java/lang/Object", "<init>", "()V"⟩ ∈ gTB := gTB_at 67 rfl rfl
theorem ql_X1_3 : Cond.methodLink "ThrowRows$Flight" 3 ⟨"java/lang/Object", "<init>", "()V"⟩ ∈ gTB := gTB_at 85 rfl rfl
theorem ql_X2_3 : Cond.methodLink "ThrowRows$Kinds" 3 ⟨"java/lang/Object", "<init>", "()V"⟩ ∈ gTB := gTB_at 98 rfl rfl
theorem ql_X5_3 : Cond.methodLink "ThrowRows$Ways" 3 ⟨"java/lang/Object", "<init>", "()V"⟩ ∈ gTB := gTB_at 112 rfl rfl
theorem ql_X0_3 : Cond.methodLink "ThrowRows$Fillings" 3 ⟨"java/lang/Object", "<init>", "()V"⟩ ∈ gTB := gTB_at 128 rfl rfl
theorem ql_X4_3 : Cond.methodLink "ThrowRows$Sheet" 3 ⟨"java/lang/Object", "<init>", "()V"⟩ ∈ gTB := gTB_at 143 rfl rfl
theorem ql_L_13 : Cond.methodLink "ThrowRowsLaw" 13 yX6_pattern ∈ gTB := gTB_at 190 rfl rfl
theorem ql_X6_67 : Cond.methodLink "ThrowRows" 67 yX6_isSheet ∈ gTB := gTB_at 194 rfl rfl
theorem ql_X6_104 : Cond.methodLink "ThrowRows" 104 yX6_isWithin ∈ gTB := gTB_at 197 rfl rfl
theorem ql_X6_71 : Cond.methodLink "ThrowRows" 71 yX6_isSort ∈ gTB := gTB_at 200 rfl rfl
theorem ql_X6_74 : Cond.methodLink "ThrowRows" 74 yX4_faultOfCells ∈ gTB := gTB_at 203 rfl rfl
theorem ql_X4_28 : Cond.methodLink "ThrowRows$Sheet" 28 yX4_isThere ∈ gTB := gTB_at 207 rfl rfl
theorem ql_X4_32 : Cond.methodLink "ThrowRows$Sheet" 32 yX4_holds ∈ gTB := gTB_at 211 rfl rfl
theorem ql_X6_78 : Cond.methodLink "ThrowRows" 78 yX6_firstWrongCode ∈ gTB := gTB_at 215 rfl rfl
theorem ql_X6_235 : Cond.methodLink "ThrowRows" 235 yX4_read ∈ gTB := gTB_at 218 rfl rfl
theorem ql_X6_82 : Cond.methodLink "ThrowRows" 82 yX6_takeText ∈ gTB := gTB_at 222 rfl rfl
theorem ql_X6_147 : Cond.methodLink "ThrowRows" 147 yX3_setHeight ∈ gTB := gTB_at 226 rfl rfl
theorem ql_X3_25 : Cond.methodLink "ThrowRows$Row" 25 yX3_hasBeat ∈ gTB := gTB_at 230 rfl rfl
theorem ql_X6_263 : Cond.methodLink "ThrowRows" 263 yX2_reset ∈ gTB := gTB_at 234 rfl rfl
theorem ql_X2_15 : Cond.methodLink "ThrowRows$Kinds" 15 yJ7_fill_53178 ∈ gTB := gTB_at 238 rfl rfl
theorem ql_L_18 : Cond.methodLink "ThrowRowsLaw" 18 yX6_throwOf ∈ gTB := gTB_at 241 rfl rfl
theorem ql_X6_89 : Cond.methodLink "ThrowRows" 89 yX3_hasBeat ∈ gTB := gTB_at 245 rfl rfl
theorem ql_X6_92 : Cond.methodLink "ThrowRows" 92 yX3_heightIn ∈ gTB := gTB_at 246 rfl rfl
theorem ql_X3_19 : Cond.methodLink "ThrowRows$Row" 19 yJ9_floorMod_7cf53 ∈ gTB := gTB_at 250 rfl rfl
theorem ql_L_23 : Cond.methodLink "ThrowRowsLaw" 23 yX6_clash ∈ gTB := gTB_at 253 rfl rfl
theorem ql_X6_96 : Cond.methodLink "ThrowRows" 96 yX3_isThere ∈ gTB := gTB_at 257 rfl rfl
theorem ql_X6_100 : Cond.methodLink "ThrowRows" 100 yX3_firstClash ∈ gTB := gTB_at 261 rfl rfl
theorem ql_X3_33 : Cond.methodLink "ThrowRows$Row" 33 yX3_landingOf ∈ gTB := gTB_at 265 rfl rfl
theorem ql_X3_29 : Cond.methodLink "ThrowRows$Row" 29 yX3_heightIn ∈ gTB := gTB_at 269 rfl rfl
theorem ql_L_28 : Cond.methodLink "ThrowRowsLaw" 28 yX6_good ∈ gTB := gTB_at 270 rfl rfl
theorem ql_X6_108 : Cond.methodLink "ThrowRows" 108 yX3_isGood ∈ gTB := gTB_at 274 rfl rfl
theorem ql_X3_36 : Cond.methodLink "ThrowRows$Row" 36 yX3_isThere ∈ gTB := gTB_at 278 rfl rfl
theorem ql_X3_40 : Cond.methodLink "ThrowRows$Row" 40 yX3_firstClash ∈ gTB := gTB_at 279 rfl rfl
theorem ql_X6_111 : Cond.methodLink "ThrowRows" 111 yX3_ballCount ∈ gTB := gTB_at 280 rfl rfl
theorem ql_X6_114 : Cond.methodLink "ThrowRows" 114 yX3_greatestHeight ∈ gTB := gTB_at 284 rfl rfl
theorem ql_X3_44 : Cond.methodLink "ThrowRows$Row" 44 yJ9_max_7cf53 ∈ gTB := gTB_at 288 rfl rfl
theorem ql_X6_117 : Cond.methodLink "ThrowRows" 117 yX3_isPrime ∈ gTB := gTB_at 291 rfl rfl
theorem ql_X3_47 : Cond.methodLink "ThrowRows$Row" 47 yX3_stateAhead ∈ gTB := gTB_at 295 rfl rfl
theorem ql_X6_120 : Cond.methodLink "ThrowRows" 120 yX3_isGround ∈ gTB := gTB_at 299 rfl rfl
set_option maxRecDepth 20000 in
theorem ql_X3_50 : Cond.methodLink "ThrowRows$Row" 50 yX3_ballCount ∈ gTB := gTB_at 303 rfl rfl
set_option maxRecDepth 20000 in
theorem ql_X6_123 : Cond.methodLink "ThrowRows" 123 yX3_orbitsBelow ∈ gTB := gTB_at 304 rfl rfl
set_option maxRecDepth 20000 in
theorem ql_X3_56 : Cond.methodLink "ThrowRows$Row" 56 yX3_leastInOrbit ∈ gTB := gTB_at 308 rfl rfl
set_option maxRecDepth 20000 in
theorem ql_X3_53 : Cond.methodLink "ThrowRows$Row" 53 yJ9_min_7cf53 ∈ gTB := gTB_at 312 rfl rfl
set_option maxRecDepth 20000 in
theorem ql_L_32 : Cond.methodLink "ThrowRowsLaw" 32 yX6_state ∈ gTB := gTB_at 315 rfl rfl
set_option maxRecDepth 20000 in
theorem ql_X6_126 : Cond.methodLink "ThrowRows" 126 yX3_stateAhead ∈ gTB := gTB_at 319 rfl rfl
set_option maxRecDepth 20000 in
theorem ql_L_36 : Cond.methodLink "ThrowRowsLaw" 36 yX6_ball ∈ gTB := gTB_at 320 rfl rfl
set_option maxRecDepth 20000 in
theorem ql_X6_129 : Cond.methodLink "ThrowRows" 129 yX1_begin ∈ gTB := gTB_at 324 rfl rfl
set_option maxRecDepth 20000 in
theorem ql_X1_15 : Cond.methodLink "ThrowRows$Flight" 15 yJ7_fill_53178 ∈ gTB := gTB_at 328 rfl rfl
set_option maxRecDepth 20000 in
theorem ql_X6_132 : Cond.methodLink "ThrowRows" 132 yX1_pass ∈ gTB := gTB_at 329 rfl rfl
set_option maxRecDepth 20000 in
theorem ql_L_40 : Cond.methodLink "ThrowRowsLaw" 40 yX6_orbit ∈ gTB := gTB_at 333 rfl rfl
set_option maxRecDepth 20000 in
theorem ql_X6_136 : Cond.methodLink "ThrowRows" 136 yX3_leastInOrbit ∈ gTB := gTB_at 337 rfl rfl
set_option maxRecDepth 20000 in
theorem ql_L_44 : Cond.methodLink "ThrowRowsLaw" 44 yX6_hands ∈ gTB := gTB_at 338 rfl rfl
set_option maxRecDepth 20000 in
theorem ql_L_48 : Cond.methodLink "ThrowRowsLaw" 48 yX6_beat ∈ gTB := gTB_at 342 rfl rfl
set_option maxRecDepth 20000 in
theorem ql_X6_139 : Cond.methodLink "ThrowRows" 139 yX6_handIn ∈ gTB := gTB_at 346 rfl rfl
set_option maxRecDepth 20000 in
theorem ql_X6_142 : Cond.methodLink "ThrowRows" 142 yJ6_bitCount_0f7a4 ∈ gTB := gTB_at 350 rfl rfl
set_option maxRecDepth 20000 in
theorem ql_L_53 : Cond.methodLink "ThrowRowsLaw" 53 yX6_swap ∈ gTB := gTB_at 356 rfl rfl
set_option maxRecDepth 20000 in
theorem ql_L_57 : Cond.methodLink "ThrowRowsLaw" 57 yX6_turn ∈ gTB := gTB_at 360 rfl rfl
set_option maxRecDepth 20000 in
theorem ql_X6_151 : Cond.methodLink "ThrowRows" 151 yX3_take ∈ gTB := gTB_at 364 rfl rfl
set_option maxRecDepth 20000 in
theorem ql_X3_59 : Cond.methodLink "ThrowRows$Row" 59 yX3_takeTurned ∈ gTB := gTB_at 368 rfl rfl
set_option maxRecDepth 20000 in
theorem ql_X3_63 : Cond.methodLink "ThrowRows$Row" 63 yX3_setHeight ∈ gTB := gTB_at 372 rfl rfl
set_option maxRecDepth 20000 in
theorem ql_X6_155 : Cond.methodLink "ThrowRows" 155 yX3_takeTurned ∈ gTB := gTB_at 373 rfl rfl
set_option maxRecDepth 20000 in
theorem ql_L_61 : Cond.methodLink "ThrowRowsLaw" 61 yX6_backward ∈ gTB := gTB_at 374 rfl rfl
set_option maxRecDepth 20000 in
theorem ql_X6_159 : Cond.methodLink "ThrowRows" 159 yX3_takeBackward ∈ gTB := gTB_at 378 rfl rfl
set_option maxRecDepth 20000 in
theorem ql_L_65 : Cond.methodLink "ThrowRowsLaw" 65 yX6_greatest ∈ gTB := gTB_at 382 rfl rfl
set_option maxRecDepth 20000 in
theorem ql_X6_162 : Cond.methodLink "ThrowRows" 162 yX3_greatestTurn ∈ gTB := gTB_at 386 rfl rfl
set_option maxRecDepth 20000 in
theorem ql_X3_67 : Cond.methodLink "ThrowRows$Row" 67 yX3_isTurnGreater ∈ gTB := gTB_at 390 rfl rfl
set_option maxRecDepth 20000 in
theorem ql_L_69 : Cond.methodLink "ThrowRowsLaw" 69 yX6_keep ∈ gTB := gTB_at 394 rfl rfl
set_option maxRecDepth 20000 in
theorem ql_X6_165 : Cond.methodLink "ThrowRows" 165 yX6_isImage ∈ gTB := gTB_at 398 rfl rfl
set_option maxRecDepth 20000 in
theorem ql_L_73 : Cond.methodLink "ThrowRowsLaw" 73 yX6_back ∈ gTB := gTB_at 401 rfl rfl
set_option maxRecDepth 20000 in
theorem ql_L_77 : Cond.methodLink "ThrowRowsLaw" 77 yX6_like ∈ gTB := gTB_at 405 rfl rfl
set_option maxRecDepth 20000 in
theorem ql_X6_168 : Cond.methodLink "ThrowRows" 168 yX3_isTurned ∈ gTB := gTB_at 409 rfl rfl
set_option maxRecDepth 20000 in
theorem ql_X3_71 : Cond.methodLink "ThrowRows$Row" 71 yX3_greatestTurn ∈ gTB := gTB_at 413 rfl rfl
set_option maxRecDepth 20000 in
theorem ql_L_81 : Cond.methodLink "ThrowRowsLaw" 81 yX6_howMany ∈ gTB := gTB_at 414 rfl rfl
set_option maxRecDepth 20000 in
theorem ql_X6_174 : Cond.methodLink "ThrowRows" 174 yX0_allow ∈ gTB := gTB_at 419 rfl rfl
set_option maxRecDepth 20000 in
theorem ql_X6_178 : Cond.methodLink "ThrowRows" 178 yX0_count ∈ gTB := gTB_at 424 rfl rfl
set_option maxRecDepth 20000 in
theorem ql_X0_25 : Cond.methodLink "ThrowRows$Fillings" 25 yJ7_fill_53178 ∈ gTB := gTB_at 428 rfl rfl
set_option maxRecDepth 20000 in
theorem ql_X0_31 : Cond.methodLink "ThrowRows$Fillings" 31 yJ6_bitCount_0f7a4 ∈ gTB := gTB_at 429 rfl rfl
set_option maxRecDepth 20000 in
theorem ql_X0_37 : Cond.methodLink "ThrowRows$Fillings" 37 yX0_addThrow ∈ gTB := gTB_at 430 rfl rfl
set_option maxRecDepth 20000 in
theorem ql_L_86 : Cond.methodLink "ThrowRowsLaw" 86 yX6_way ∈ gTB := gTB_at 434 rfl rfl
set_option maxRecDepth 20000 in
theorem ql_X6_181 : Cond.methodLink "ThrowRows" 181 yX5_measure ∈ gTB := gTB_at 438 rfl rfl
set_option maxRecDepth 20000 in
theorem ql_X5_18 : Cond.methodLink "ThrowRows$Ways" 18 yJ7_fill_53178 ∈ gTB := gTB_at 442 rfl rfl
set_option maxRecDepth 20000 in
theorem ql_X5_28 : Cond.methodLink "ThrowRows$Ways" 28 yX5_reach ∈ gTB := gTB_at 443 rfl rfl
set_option maxRecDepth 20000 in
theorem ql_X5_32 : Cond.methodLink "ThrowRows$Ways" 32 yX5_reachFrom ∈ gTB := gTB_at 448 rfl rfl
set_option maxRecDepth 20000 in
theorem ql_X5_35 : Cond.methodLink "ThrowRows$Ways" 35 yX5_beatsFrom ∈ gTB := gTB_at 452 rfl rfl
set_option maxRecDepth 20000 in
theorem ql_X6_184 : Cond.methodLink "ThrowRows" 184 yX5_beatsFrom ∈ gTB := gTB_at 456 rfl rfl
set_option maxRecDepth 20000 in
theorem ql_X6_187 : Cond.methodLink "ThrowRows" 187 yX5_throwOnWay ∈ gTB := gTB_at 457 rfl rfl
set_option maxRecDepth 20000 in
theorem ql_X5_43 : Cond.methodLink "ThrowRows$Ways" 43 yX5_leastThrow ∈ gTB := gTB_at 461 rfl rfl
set_option maxRecDepth 20000 in
theorem ql_X5_47 : Cond.methodLink "ThrowRows$Ways" 47 yX5_stateBehind ∈ gTB := gTB_at 465 rfl rfl
set_option maxRecDepth 20000 in
theorem ql_L_90 : Cond.methodLink "ThrowRowsLaw" 90 yX6_filled ∈ gTB := gTB_at 468 rfl rfl
set_option maxRecDepth 20000 in
theorem ql_X6_190 : Cond.methodLink "ThrowRows" 190 yX6_areOpenOrThrows ∈ gTB := gTB_at 472 rfl rfl
set_option maxRecDepth 20000 in
theorem ql_X6_194 : Cond.methodLink "ThrowRows" 194 yX6_allowCells ∈ gTB := gTB_at 475 rfl rfl
set_option maxRecDepth 20000 in
theorem ql_X6_197 : Cond.methodLink "ThrowRows" 197 yX0_throwOfFirst ∈ gTB := gTB_at 479 rfl rfl
set_option maxRecDepth 20000 in
theorem ql_X0_41 : Cond.methodLink "ThrowRows$Fillings" 41 yX0_firstThrow ∈ gTB := gTB_at 483 rfl rfl
set_option maxRecDepth 20000 in
theorem ql_L_95 : Cond.methodLink "ThrowRowsLaw" 95 yX6_kind ∈ gTB := gTB_at 487 rfl rfl
set_option maxRecDepth 20000 in
theorem ql_X6_200 : Cond.methodLink "ThrowRows" 200 yX6_isBall ∈ gTB := gTB_at 491 rfl rfl
set_option maxRecDepth 20000 in
theorem ql_X6_203 : Cond.methodLink "ThrowRows" 203 yX6_isKind ∈ gTB := gTB_at 494 rfl rfl
set_option maxRecDepth 20000 in
theorem ql_X6_206 : Cond.methodLink "ThrowRows" 206 yX2_kindOf ∈ gTB := gTB_at 497 rfl rfl
set_option maxRecDepth 20000 in
theorem ql_X6_209 : Cond.methodLink "ThrowRows" 209 yX2_setKind ∈ gTB := gTB_at 502 rfl rfl
set_option maxRecDepth 20000 in
theorem ql_L_99 : Cond.methodLink "ThrowRowsLaw" 99 yX6_broken ∈ gTB := gTB_at 506 rfl rfl
set_option maxRecDepth 20000 in
theorem ql_X6_212 : Cond.methodLink "ThrowRows" 212 yX2_mayGo ∈ gTB := gTB_at 510 rfl rfl
set_option maxRecDepth 20000 in
theorem ql_X2_25 : Cond.methodLink "ThrowRows$Kinds" 25 yX2_kindOf ∈ gTB := gTB_at 514 rfl rfl
set_option maxRecDepth 20000 in
theorem ql_L_103 : Cond.methodLink "ThrowRowsLaw" 103 yX6_drop ∈ gTB := gTB_at 515 rfl rfl
set_option maxRecDepth 20000 in
theorem ql_L_107 : Cond.methodLink "ThrowRowsLaw" 107 yX6_empty ∈ gTB := gTB_at 519 rfl rfl
set_option maxRecDepth 20000 in
theorem ql_L_111 : Cond.methodLink "ThrowRowsLaw" 111 yX6_sheet ∈ gTB := gTB_at 523 rfl rfl
set_option maxRecDepth 20000 in
theorem ql_X6_218 : Cond.methodLink "ThrowRows" 218 yX6_faulted ∈ gTB := gTB_at 527 rfl rfl
set_option maxRecDepth 20000 in
theorem ql_X6_221 : Cond.methodLink "ThrowRows" 221 yX4_renew ∈ gTB := gTB_at 531 rfl rfl
set_option maxRecDepth 20000 in
theorem ql_X4_19 : Cond.methodLink "ThrowRows$Sheet" 19 yJ7_fill_53178 ∈ gTB := gTB_at 535 rfl rfl
set_option maxRecDepth 20000 in
theorem ql_L_116 : Cond.methodLink "ThrowRowsLaw" 116 yX6_lose ∈ gTB := gTB_at 536 rfl rfl
set_option maxRecDepth 20000 in
theorem ql_X6_224 : Cond.methodLink "ThrowRows" 224 yX4_clear ∈ gTB := gTB_at 540 rfl rfl
set_option maxRecDepth 20000 in
theorem ql_L_120 : Cond.methodLink "ThrowRowsLaw" 120 yX6_put ∈ gTB := gTB_at 544 rfl rfl
set_option maxRecDepth 20000 in
theorem ql_X6_227 : Cond.methodLink "ThrowRows" 227 yX4_isThere ∈ gTB := gTB_at 548 rfl rfl
set_option maxRecDepth 20000 in
theorem ql_X6_228 : Cond.methodLink "ThrowRows" 228 yX4_holds ∈ gTB := gTB_at 549 rfl rfl
set_option maxRecDepth 20000 in
theorem ql_X6_232 : Cond.methodLink "ThrowRows" 232 yX4_write ∈ gTB := gTB_at 550 rfl rfl
set_option maxRecDepth 20000 in
theorem ql_X4_36 : Cond.methodLink "ThrowRows$Sheet" 36 yX4_cutToSort ∈ gTB := gTB_at 554 rfl rfl
set_option maxRecDepth 20000 in
theorem ql_L_124 : Cond.methodLink "ThrowRowsLaw" 124 yX6_cell ∈ gTB := gTB_at 558 rfl rfl
set_option maxRecDepth 20000 in
theorem ql_L_128 : Cond.methodLink "ThrowRowsLaw" 128 yX6_copy ∈ gTB := gTB_at 562 rfl rfl
set_option maxRecDepth 20000 in
theorem ql_X6_245 : Cond.methodLink "ThrowRows" 245 ⟨"java/lang/System", "arraycopy", "(Ljava/lang/Object;ILjava/lang/Object;II)V"⟩ ∈ gTB := gTB_at 566 rfl rfl
set_option maxRecDepth 20000 in
theorem ql_L_133 : Cond.methodLink "ThrowRowsLaw" 133 yX6_tell ∈ gTB := gTB_at 569 rfl rfl
set_option maxRecDepth 20000 in
theorem ql_X6_251 : Cond.methodLink "ThrowRows" 251 yX2_telling ∈ gTB := gTB_at 573 rfl rfl
set_option maxRecDepth 20000 in
theorem ql_X2_29 : Cond.methodLink "ThrowRows$Kinds" 29 yX2_tellingOfEgg ∈ gTB := gTB_at 577 rfl rfl
set_option maxRecDepth 20000 in
theorem ql_X2_38 : Cond.methodLink "ThrowRows$Kinds" 38 yX2_leave ∈ gTB := gTB_at 581 rfl rfl
set_option maxRecDepth 20000 in
theorem ql_X2_32 : Cond.methodLink "ThrowRows$Kinds" 32 yX2_tellingOfHeavy ∈ gTB := gTB_at 585 rfl rfl
set_option maxRecDepth 20000 in
theorem ql_X2_35 : Cond.methodLink "ThrowRows$Kinds" 35 yX2_tellingOfBall ∈ gTB := gTB_at 589 rfl rfl
set_option maxRecDepth 20000 in
theorem ql_L_137 : Cond.methodLink "ThrowRowsLaw" 137 yX6_call ∈ gTB := gTB_at 593 rfl rfl
set_option maxRecDepth 20000 in
theorem ql_X6_254 : Cond.methodLink "ThrowRows" 254 yX2_calling ∈ gTB := gTB_at 597 rfl rfl
set_option maxRecDepth 20000 in
theorem ql_X2_42 : Cond.methodLink "ThrowRows$Kinds" 42 yX2_mayGo ∈ gTB := gTB_at 601 rfl rfl
set_option maxRecDepth 20000 in
theorem ql_L_141 : Cond.methodLink "ThrowRowsLaw" 141 yX6_as ∈ gTB := gTB_at 602 rfl rfl
set_option maxRecDepth 20000 in
theorem ql_L_145 : Cond.methodLink "ThrowRowsLaw" 145 yX6_trace ∈ gTB := gTB_at 606 rfl rfl
set_option maxRecDepth 20000 in
theorem ql_L_149 : Cond.methodLink "ThrowRowsLaw" 149 yX6_fault ∈ gTB := gTB_at 610 rfl rfl
set_option maxRecDepth 20000 in
theorem ql_L_153 : Cond.methodLink "ThrowRowsLaw" 153 yX6_many ∈ gTB := gTB_at 614 rfl rfl
set_option maxRecDepth 20000 in
theorem ql_X6_260 : Cond.methodLink "ThrowRows" 260 yX6_imageCount ∈ gTB := gTB_at 618 rfl rfl
set_option maxRecDepth 20000 in
theorem ql_L_12 : Cond.methodLink "ThrowRowsLaw" 12 yX7_init ∈ gTB := gTB_at 624 rfl rfl
set_option maxRecDepth 20000 in
theorem ql_X7_1 : Cond.methodLink "ThrowRowsModel" 1 ⟨"java/lang/Object", "<init>", "()V"⟩ ∈ gTB := gTB_at 627 rfl rfl
set_option maxRecDepth 20000 in
theorem ql_L_17 : Cond.methodLink "ThrowRowsLaw" 17 yX7_pattern ∈ gTB := gTB_at 690 rfl rfl
set_option maxRecDepth 20000 in
theorem ql_X7_63 : Cond.methodLink "ThrowRowsModel" 63 yX7_isSheet ∈ gTB := gTB_at 694 rfl rfl
set_option maxRecDepth 20000 in
theorem ql_X7_56 : Cond.methodLink "ThrowRowsModel" 56 yX7_within ∈ gTB := gTB_at 697 rfl rfl
set_option maxRecDepth 20000 in
theorem ql_X7_67 : Cond.methodLink "ThrowRowsModel" 67 yX7_isSort ∈ gTB := gTB_at 700 rfl rfl
set_option maxRecDepth 20000 in
theorem ql_X7_70 : Cond.methodLink "ThrowRowsModel" 70 yX7_against ∈ gTB := gTB_at 703 rfl rfl
set_option maxRecDepth 20000 in
theorem ql_X7_74 : Cond.methodLink "ThrowRowsModel" 74 yX7_fails ∈ gTB := gTB_at 707 rfl rfl
set_option maxRecDepth 20000 in
theorem ql_L_22 : Cond.methodLink "ThrowRowsLaw" 22 yX7_throwOf ∈ gTB := gTB_at 711 rfl rfl
set_option maxRecDepth 20000 in
theorem ql_X7_84 : Cond.methodLink "ThrowRowsModel" 84 yX7_isBeat ∈ gTB := gTB_at 715 rfl rfl
set_option maxRecDepth 20000 in
theorem ql_L_27 : Cond.methodLink "ThrowRowsLaw" 27 yX7_clash ∈ gTB := gTB_at 719 rfl rfl
set_option maxRecDepth 20000 in
theorem ql_X7_90 : Cond.methodLink "ThrowRowsModel" 90 yX7_findClash ∈ gTB := gTB_at 723 rfl rfl
set_option maxRecDepth 20000 in
theorem ql_X7_87 : Cond.methodLink "ThrowRowsModel" 87 yX7_landsIn ∈ gTB := gTB_at 727 rfl rfl
set_option maxRecDepth 20000 in
theorem ql_L_31 : Cond.methodLink "ThrowRowsLaw" 31 yX7_good ∈ gTB := gTB_at 731 rfl rfl
set_option maxRecDepth 20000 in
theorem ql_X7_100 : Cond.methodLink "ThrowRowsModel" 100 yX7_isGood ∈ gTB := gTB_at 735 rfl rfl
set_option maxRecDepth 20000 in
theorem ql_X7_97 : Cond.methodLink "ThrowRowsModel" 97 yX7_balls ∈ gTB := gTB_at 739 rfl rfl
set_option maxRecDepth 20000 in
theorem ql_X7_104 : Cond.methodLink "ThrowRowsModel" 104 yX7_greatestThrow ∈ gTB := gTB_at 743 rfl rfl
set_option maxRecDepth 20000 in
theorem ql_X7_107 : Cond.methodLink "ThrowRowsModel" 107 yX7_isPrime ∈ gTB := gTB_at 747 rfl rfl
set_option maxRecDepth 20000 in
theorem ql_X7_94 : Cond.methodLink "ThrowRowsModel" 94 yX7_stateAhead ∈ gTB := gTB_at 751 rfl rfl
set_option maxRecDepth 20000 in
theorem ql_X7_110 : Cond.methodLink "ThrowRowsModel" 110 yX7_isGround ∈ gTB := gTB_at 755 rfl rfl
set_option maxRecDepth 20000 in
theorem ql_X7_113 : Cond.methodLink "ThrowRowsModel" 113 yX7_findOrbits ∈ gTB := gTB_at 759 rfl rfl
set_option maxRecDepth 20000 in
theorem ql_L_35 : Cond.methodLink "ThrowRowsLaw" 35 yX7_state ∈ gTB := gTB_at 763 rfl rfl
set_option maxRecDepth 20000 in
theorem ql_L_39 : Cond.methodLink "ThrowRowsLaw" 39 yX7_ball ∈ gTB := gTB_at 767 rfl rfl
set_option maxRecDepth 20000 in
theorem ql_X7_116 : Cond.methodLink "ThrowRowsModel" 116 yX7_layBalls ∈ gTB := gTB_at 771 rfl rfl
set_option maxRecDepth 20000 in
theorem ql_L_43 : Cond.methodLink "ThrowRowsLaw" 43 yX7_orbit ∈ gTB := gTB_at 775 rfl rfl
set_option maxRecDepth 20000 in
theorem ql_L_47 : Cond.methodLink "ThrowRowsLaw" 47 yX7_hands ∈ gTB := gTB_at 779 rfl rfl
set_option maxRecDepth 20000 in
theorem ql_L_52 : Cond.methodLink "ThrowRowsLaw" 52 yX7_beat ∈ gTB := gTB_at 783 rfl rfl
set_option maxRecDepth 20000 in
theorem ql_X7_119 : Cond.methodLink "ThrowRowsModel" 119 yX7_size ∈ gTB := gTB_at 787 rfl rfl
set_option maxRecDepth 20000 in
theorem ql_L_56 : Cond.methodLink "ThrowRowsLaw" 56 yX7_swap ∈ gTB := gTB_at 790 rfl rfl
set_option maxRecDepth 20000 in
theorem ql_L_60 : Cond.methodLink "ThrowRowsLaw" 60 yX7_turn ∈ gTB := gTB_at 794 rfl rfl
set_option maxRecDepth 20000 in
theorem ql_X7_122 : Cond.methodLink "ThrowRowsModel" 122 yX7_takeNext ∈ gTB := gTB_at 798 rfl rfl
set_option maxRecDepth 20000 in
theorem ql_L_64 : Cond.methodLink "ThrowRowsLaw" 64 yX7_backward ∈ gTB := gTB_at 802 rfl rfl
set_option maxRecDepth 20000 in
theorem ql_L_68 : Cond.methodLink "ThrowRowsLaw" 68 yX7_greatest ∈ gTB := gTB_at 806 rfl rfl
set_option maxRecDepth 20000 in
theorem ql_X7_125 : Cond.methodLink "ThrowRowsModel" 125 yX7_isGreater ∈ gTB := gTB_at 810 rfl rfl
set_option maxRecDepth 20000 in
theorem ql_L_72 : Cond.methodLink "ThrowRowsLaw" 72 yX7_keep ∈ gTB := gTB_at 814 rfl rfl
set_option maxRecDepth 20000 in
theorem ql_X7_129 : Cond.methodLink "ThrowRowsModel" 129 yX7_isImage ∈ gTB := gTB_at 818 rfl rfl
set_option maxRecDepth 20000 in
theorem ql_L_76 : Cond.methodLink "ThrowRowsLaw" 76 yX7_back ∈ gTB := gTB_at 821 rfl rfl
set_option maxRecDepth 20000 in
theorem ql_L_80 : Cond.methodLink "ThrowRowsLaw" 80 yX7_like ∈ gTB := gTB_at 825 rfl rfl
set_option maxRecDepth 20000 in
theorem ql_X7_132 : Cond.methodLink "ThrowRowsModel" 132 yX7_isTurned ∈ gTB := gTB_at 829 rfl rfl
set_option maxRecDepth 20000 in
theorem ql_L_85 : Cond.methodLink "ThrowRowsLaw" 85 yX7_howMany ∈ gTB := gTB_at 833 rfl rfl
set_option maxRecDepth 20000 in
theorem ql_X7_152 : Cond.methodLink "ThrowRowsModel" 152 yX7_layFills ∈ gTB := gTB_at 838 rfl rfl
set_option maxRecDepth 20000 in
theorem ql_X7_141 : Cond.methodLink "ThrowRowsModel" 141 yX7_spot ∈ gTB := gTB_at 842 rfl rfl
set_option maxRecDepth 20000 in
theorem ql_X7_145 : Cond.methodLink "ThrowRowsModel" 145 yX7_mayThrow ∈ gTB := gTB_at 845 rfl rfl
set_option maxRecDepth 20000 in
theorem ql_X7_148 : Cond.methodLink "ThrowRowsModel" 148 yX7_addFills ∈ gTB := gTB_at 849 rfl rfl
set_option maxRecDepth 20000 in
theorem ql_L_89 : Cond.methodLink "ThrowRowsLaw" 89 yX7_way ∈ gTB := gTB_at 853 rfl rfl
set_option maxRecDepth 20000 in
theorem ql_X7_164 : Cond.methodLink "ThrowRowsModel" 164 yX7_findFar ∈ gTB := gTB_at 857 rfl rfl
set_option maxRecDepth 20000 in
theorem ql_X7_158 : Cond.methodLink "ThrowRowsModel" 158 yX7_mayGo ∈ gTB := gTB_at 861 rfl rfl
set_option maxRecDepth 20000 in
theorem ql_X7_161 : Cond.methodLink "ThrowRowsModel" 161 yX7_goesTo ∈ gTB := gTB_at 864 rfl rfl
set_option maxRecDepth 20000 in
theorem ql_X7_155 : Cond.methodLink "ThrowRowsModel" 155 yX7_thrownTo ∈ gTB := gTB_at 867 rfl rfl
set_option maxRecDepth 20000 in
theorem ql_L_94 : Cond.methodLink "ThrowRowsLaw" 94 yX7_filled ∈ gTB := gTB_at 870 rfl rfl
set_option maxRecDepth 20000 in
theorem ql_X7_168 : Cond.methodLink "ThrowRowsModel" 168 yX7_lost ∈ gTB := gTB_at 874 rfl rfl
set_option maxRecDepth 20000 in
theorem ql_X7_172 : Cond.methodLink "ThrowRowsModel" 172 yX7_firstFill ∈ gTB := gTB_at 878 rfl rfl
set_option maxRecDepth 20000 in
theorem ql_X7_176 : Cond.methodLink "ThrowRowsModel" 176 yX7_leadsOn ∈ gTB := gTB_at 882 rfl rfl
set_option maxRecDepth 20000 in
theorem ql_L_98 : Cond.methodLink "ThrowRowsLaw" 98 yX7_kind ∈ gTB := gTB_at 886 rfl rfl
set_option maxRecDepth 20000 in
theorem ql_X7_180 : Cond.methodLink "ThrowRowsModel" 180 yX7_isBall ∈ gTB := gTB_at 890 rfl rfl
set_option maxRecDepth 20000 in
theorem ql_L_102 : Cond.methodLink "ThrowRowsLaw" 102 yX7_broken ∈ gTB := gTB_at 893 rfl rfl
set_option maxRecDepth 20000 in
theorem ql_X7_183 : Cond.methodLink "ThrowRowsModel" 183 yX7_mayGoTo ∈ gTB := gTB_at 897 rfl rfl
set_option maxRecDepth 20000 in
theorem ql_L_106 : Cond.methodLink "ThrowRowsLaw" 106 yX7_drop ∈ gTB := gTB_at 901 rfl rfl
set_option maxRecDepth 20000 in
theorem ql_L_110 : Cond.methodLink "ThrowRowsLaw" 110 yX7_empty ∈ gTB := gTB_at 905 rfl rfl
set_option maxRecDepth 20000 in
theorem ql_L_115 : Cond.methodLink "ThrowRowsLaw" 115 yX7_sheet ∈ gTB := gTB_at 909 rfl rfl
set_option maxRecDepth 20000 in
theorem ql_L_119 : Cond.methodLink "ThrowRowsLaw" 119 yX7_lose ∈ gTB := gTB_at 913 rfl rfl
set_option maxRecDepth 20000 in
theorem ql_L_123 : Cond.methodLink "ThrowRowsLaw" 123 yX7_put ∈ gTB := gTB_at 917 rfl rfl
set_option maxRecDepth 20000 in
theorem ql_L_127 : Cond.methodLink "ThrowRowsLaw" 127 yX7_cell ∈ gTB := gTB_at 921 rfl rfl
set_option maxRecDepth 20000 in
theorem ql_L_132 : Cond.methodLink "ThrowRowsLaw" 132 yX7_copy ∈ gTB := gTB_at 925 rfl rfl
set_option maxRecDepth 20000 in
theorem ql_L_136 : Cond.methodLink "ThrowRowsLaw" 136 yX7_tell ∈ gTB := gTB_at 929 rfl rfl
set_option maxRecDepth 20000 in
theorem ql_X7_189 : Cond.methodLink "ThrowRowsModel" 189 yX7_begins ∈ gTB := gTB_at 933 rfl rfl
set_option maxRecDepth 20000 in
theorem ql_L_140 : Cond.methodLink "ThrowRowsLaw" 140 yX7_call ∈ gTB := gTB_at 937 rfl rfl
set_option maxRecDepth 20000 in
theorem ql_L_144 : Cond.methodLink "ThrowRowsLaw" 144 yX7_as ∈ gTB := gTB_at 941 rfl rfl
set_option maxRecDepth 20000 in
theorem ql_L_148 : Cond.methodLink "ThrowRowsLaw" 148 yX7_trace ∈ gTB := gTB_at 945 rfl rfl
set_option maxRecDepth 20000 in
theorem ql_L_152 : Cond.methodLink "ThrowRowsLaw" 152 yX7_fault ∈ gTB := gTB_at 949 rfl rfl
set_option maxRecDepth 20000 in
theorem ql_L_156 : Cond.methodLink "ThrowRowsLaw" 156 yX7_many ∈ gTB := gTB_at 953 rfl rfl
theorem ql_X6_11 : Cond.methodLinkNest "ThrowRows" 11 yX3_init "ThrowRows" ∈ lw_tbl := List.mem_of_getElem? (i := 64) rfl
theorem ql_X6_33 : Cond.methodLinkNest "ThrowRows" 33 yX1_init "ThrowRows" ∈ lw_tbl := List.mem_of_getElem? (i := 82) rfl
theorem ql_X6_40 : Cond.methodLinkNest "ThrowRows" 40 yX2_init "ThrowRows" ∈ lw_tbl := List.mem_of_getElem? (i := 95) rfl
theorem ql_X6_47 : Cond.methodLinkNest "ThrowRows" 47 yX5_init "ThrowRows" ∈ lw_tbl := List.mem_of_getElem? (i := 109) rfl
theorem ql_X6_54 : Cond.methodLinkNest "ThrowRows" 54 yX0_init "ThrowRows" ∈ lw_tbl := List.mem_of_getElem? (i := 125) rfl
theorem ql_X6_63 : Cond.methodLinkNest "ThrowRows" 63 yX4_init "ThrowRows" ∈ lw_tbl := List.mem_of_getElem? (i := 140) rfl
set_option maxRecDepth 20000 in
theorem ql_X0_21 : Cond.methodLinkNest "ThrowRows$Fillings" 21 yX6_isWithin "ThrowRows" ∈ lw_tbl := List.mem_of_getElem? (i := 423) rfl
set_option maxRecDepth 20000 in
theorem ql_X5_39 : Cond.methodLinkNest "ThrowRows$Ways" 39 yX6_isWithin "ThrowRows" ∈ lw_tbl := List.mem_of_getElem? (i := 447) rfl
set_option maxRecDepth 20000 in
theorem ql_X2_21 : Cond.methodLinkNest "ThrowRows$Kinds" 21 yX6_isBall "ThrowRows" ∈ lw_tbl := List.mem_of_getElem? (i := 501) rfl
theorem qi_L : Cond.initialized "ThrowRowsLaw" ∈ gTB := gTB_at 41 rfl rfl
theorem qi_X6 : Cond.initialized "ThrowRows" ∈ gTB := gTB_at 42 rfl rfl
theorem qi_X3 : Cond.initialized "ThrowRows$Row" ∈ gTB := gTB_at 43 rfl rfl
theorem qi_X1 : Cond.initialized "ThrowRows$Flight" ∈ gTB := gTB_at 44 rfl rfl
theorem qi_X2 : Cond.initialized "ThrowRows$Kinds" ∈ gTB := gTB_at 45 rfl rfl
theorem qi_X5 : Cond.initialized "ThrowRows$Ways" ∈ gTB := gTB_at 46 rfl rfl
theorem qi_X0 : Cond.initialized "ThrowRows$Fillings" ∈ gTB := gTB_at 47 rfl rfl
theorem qi_X4 : Cond.initialized "ThrowRows$Sheet" ∈ gTB := gTB_at 48 rfl rfl
theorem qi_X7 : Cond.initialized "ThrowRowsModel" ∈ gTB := gTB_at 49 rfl rfl
theorem qi_J7 : Cond.initialized "java/util/Arrays" ∈ gTB := gTB_at 50 rfl rfl
theorem qi_J9 : Cond.initialized "java/lang/Math" ∈ gTB := gTB_at 51 rfl rfl
theorem qi_J6 : Cond.initialized "java/lang/Integer" ∈ gTB := gTB_at 52 rfl rfl
theorem qi_J10 : Cond.initialized "java/lang/System" ∈ gTB := gTB_at 53 rfl rfl
theorem inX0 : ∀ w ∈ u_ws RX0 TX0 3, w ∈ gTB := u_in (fun k hk => match k, hk with
  | 0, _ => gTB_at 132 rfl rfl
  | 1, _ => gTB_at 134 rfl rfl
  | 2, _ => gTB_at 136 rfl rfl
  | k + 3, h => absurd h (by omega))
theorem inX1 : ∀ w ∈ u_ws RX1 TX1 2, w ∈ gTB := u_in (fun k hk => match k, hk with
  | 0, _ => gTB_at 88 rfl rfl
  | 1, _ => gTB_at 90 rfl rfl
  | k + 2, h => absurd h (by omega))
theorem inX2 : ∀ w ∈ u_ws RX2 TX2 2, w ∈ gTB := u_in (fun k hk => match k, hk with
  | 0, _ => gTB_at 102 rfl rfl
  | 1, _ => gTB_at 104 rfl rfl
  | k + 2, h => absurd h (by omega))
theorem inX3 : ∀ w ∈ u_ws RX3 TX3 2, w ∈ gTB := u_in (fun k hk => match k, hk with
  | 0, _ => gTB_at 71 rfl rfl
  | 1, _ => gTB_at 73 rfl rfl
  | k + 2, h => absurd h (by omega))
theorem inX4 : ∀ w ∈ u_ws RX4 TX4 3, w ∈ gTB := u_in (fun k hk => match k, hk with
  | 0, _ => gTB_at 149 rfl rfl
  | 1, _ => gTB_at 151 rfl rfl
  | 2, _ => gTB_at 153 rfl rfl
  | k + 3, h => absurd h (by omega))
theorem inX5 : ∀ w ∈ u_ws RX5 TX5 3, w ∈ gTB := u_in (fun k hk => match k, hk with
  | 0, _ => gTB_at 116 rfl rfl
  | 1, _ => gTB_at 118 rfl rfl
  | 2, _ => gTB_at 120 rfl rfl
  | k + 3, h => absurd h (by omega))
theorem inX6 : ∀ w ∈ u_ws RX6 TX6 11, w ∈ gTB := u_in (fun k hk => match k, hk with
  | 0, _ => gTB_at 167 rfl rfl
  | 1, _ => gTB_at 169 rfl rfl
  | 2, _ => gTB_at 171 rfl rfl
  | 3, _ => gTB_at 173 rfl rfl
  | 4, _ => gTB_at 175 rfl rfl
  | 5, _ => gTB_at 177 rfl rfl
  | 6, _ => gTB_at 179 rfl rfl
  | 7, _ => gTB_at 181 rfl rfl
  | 8, _ => gTB_at 183 rfl rfl
  | 9, _ => gTB_at 185 rfl rfl
  | 10, _ => gTB_at 187 rfl rfl
  | k + 11, h => absurd h (by omega))
set_option maxRecDepth 20000 in
theorem inX7 : ∀ w ∈ u_ws RX7 TX7 20, w ∈ gTB := u_in (fun k hk => match k, hk with
  | 0, _ => gTB_at 648 rfl rfl
  | 1, _ => gTB_at 650 rfl rfl
  | 2, _ => gTB_at 652 rfl rfl
  | 3, _ => gTB_at 654 rfl rfl
  | 4, _ => gTB_at 656 rfl rfl
  | 5, _ => gTB_at 658 rfl rfl
  | 6, _ => gTB_at 660 rfl rfl
  | 7, _ => gTB_at 662 rfl rfl
  | 8, _ => gTB_at 664 rfl rfl
  | 9, _ => gTB_at 666 rfl rfl
  | 10, _ => gTB_at 668 rfl rfl
  | 11, _ => gTB_at 670 rfl rfl
  | 12, _ => gTB_at 672 rfl rfl
  | 13, _ => gTB_at 674 rfl rfl
  | 14, _ => gTB_at 676 rfl rfl
  | 15, _ => gTB_at 678 rfl rfl
  | 16, _ => gTB_at 680 rfl rfl
  | 17, _ => gTB_at 682 rfl rfl
  | 18, _ => gTB_at 684 rfl rfl
  | 19, _ => gTB_at 686 rfl rfl
  | k + 20, h => absurd h (by omega))
theorem kX6_pattern : gCalV yX6_pattern cX6_pattern 6 (some .int) 4 := ⟨⟨gTB_at 193 rfl rfl, qi_X6, by decide +kernel, by decide +kernel, by decide +kernel⟩, gTB_at 191 rfl rfl, gTB_at 192 rfl rfl⟩
theorem kX6_isSheet : gCalS yX6_isSheet cX6_isSheet 1 (some .boolean) 1 := ⟨⟨gTB_at 196 rfl rfl, qi_X6, by decide +kernel, by decide +kernel, by decide +kernel⟩, gTB_at 195 rfl rfl⟩
theorem kX6_isWithin : gCalS yX6_isWithin cX6_isWithin 3 (some .boolean) 3 := ⟨⟨gTB_at 199 rfl rfl, qi_X6, by decide +kernel, by decide +kernel, by decide +kernel⟩, gTB_at 198 rfl rfl⟩
theorem kX6_isSort : gCalS yX6_isSort cX6_isSort 1 (some .boolean) 1 := ⟨⟨gTB_at 202 rfl rfl, qi_X6, by decide +kernel, by decide +kernel, by decide +kernel⟩, gTB_at 201 rfl rfl⟩
theorem kX4_faultOfCells : gCalV yX4_faultOfCells cX4_faultOfCells 4 (some .int) 3 := ⟨⟨gTB_at 206 rfl rfl, qi_X4, by decide +kernel, by decide +kernel, by decide +kernel⟩, gTB_at 204 rfl rfl, gTB_at 205 rfl rfl⟩
theorem kX4_isThere : gCalV yX4_isThere cX4_isThere 1 (some .boolean) 0 := ⟨⟨gTB_at 210 rfl rfl, qi_X4, by decide +kernel, by decide +kernel, by decide +kernel⟩, gTB_at 208 rfl rfl, gTB_at 209 rfl rfl⟩
theorem kX4_holds : gCalV yX4_holds cX4_holds 3 (some .boolean) 2 := ⟨⟨gTB_at 214 rfl rfl, qi_X4, by decide +kernel, by decide +kernel, by decide +kernel⟩, gTB_at 212 rfl rfl, gTB_at 213 rfl rfl⟩
theorem kX6_firstWrongCode : gCalS yX6_firstWrongCode cX6_firstWrongCode 4 (some .int) 3 := ⟨⟨gTB_at 217 rfl rfl, qi_X6, by decide +kernel, by decide +kernel, by decide +kernel⟩, gTB_at 216 rfl rfl⟩
theorem kX4_read : gCalV yX4_read cX4_read 2 (some .int) 1 := ⟨⟨gTB_at 221 rfl rfl, qi_X4, by decide +kernel, by decide +kernel, by decide +kernel⟩, gTB_at 219 rfl rfl, gTB_at 220 rfl rfl⟩
theorem kX6_takeText : gCalV yX6_takeText cX6_takeText 5 none 3 := ⟨⟨gTB_at 225 rfl rfl, qi_X6, by decide +kernel, by decide +kernel, by decide +kernel⟩, gTB_at 224 rfl rfl, gTB_at 0 rfl rfl⟩
theorem kX3_setHeight : gCalV yX3_setHeight cX3_setHeight 3 none 2 := ⟨⟨gTB_at 229 rfl rfl, qi_X3, by decide +kernel, by decide +kernel, by decide +kernel⟩, gTB_at 227 rfl rfl, gTB_at 228 rfl rfl⟩
theorem kX3_hasBeat : gCalV yX3_hasBeat cX3_hasBeat 2 (some .boolean) 1 := ⟨⟨gTB_at 233 rfl rfl, qi_X3, by decide +kernel, by decide +kernel, by decide +kernel⟩, gTB_at 231 rfl rfl, gTB_at 232 rfl rfl⟩
theorem kX2_reset : gCalV yX2_reset cX2_reset 1 none 0 := ⟨⟨gTB_at 237 rfl rfl, qi_X2, by decide +kernel, by decide +kernel, by decide +kernel⟩, gTB_at 235 rfl rfl, gTB_at 236 rfl rfl⟩
theorem kJ7_fill_53178 : gCalS yJ7_fill_53178 cJ7_fill_53178 4 none 2 := ⟨⟨gTB_at 240 rfl rfl, qi_J7, by decide +kernel, by decide +kernel, by decide +kernel⟩, gTB_at 239 rfl rfl⟩
theorem kX6_throwOf : gCalV yX6_throwOf cX6_throwOf 2 (some .int) 1 := ⟨⟨gTB_at 244 rfl rfl, qi_X6, by decide +kernel, by decide +kernel, by decide +kernel⟩, gTB_at 242 rfl rfl, gTB_at 243 rfl rfl⟩
theorem kX3_heightIn : gCalV yX3_heightIn cX3_heightIn 2 (some .int) 1 := ⟨⟨gTB_at 249 rfl rfl, qi_X3, by decide +kernel, by decide +kernel, by decide +kernel⟩, gTB_at 247 rfl rfl, gTB_at 248 rfl rfl⟩
theorem kJ9_floorMod_7cf53 : gCalS yJ9_floorMod_7cf53 cJ9_floorMod_7cf53 3 (some .int) 2 := ⟨⟨gTB_at 252 rfl rfl, qi_J9, by decide +kernel, by decide +kernel, by decide +kernel⟩, gTB_at 251 rfl rfl⟩
theorem kX6_clash : gCalV yX6_clash cX6_clash 1 (some .int) 0 := ⟨⟨gTB_at 256 rfl rfl, qi_X6, by decide +kernel, by decide +kernel, by decide +kernel⟩, gTB_at 254 rfl rfl, gTB_at 255 rfl rfl⟩
theorem kX3_isThere : gCalV yX3_isThere cX3_isThere 1 (some .boolean) 0 := ⟨⟨gTB_at 260 rfl rfl, qi_X3, by decide +kernel, by decide +kernel, by decide +kernel⟩, gTB_at 258 rfl rfl, gTB_at 259 rfl rfl⟩
theorem kX3_firstClash : gCalV yX3_firstClash cX3_firstClash 3 (some .int) 0 := ⟨⟨gTB_at 264 rfl rfl, qi_X3, by decide +kernel, by decide +kernel, by decide +kernel⟩, gTB_at 262 rfl rfl, gTB_at 263 rfl rfl⟩
theorem kX3_landingOf : gCalV yX3_landingOf cX3_landingOf 2 (some .int) 1 := ⟨⟨gTB_at 268 rfl rfl, qi_X3, by decide +kernel, by decide +kernel, by decide +kernel⟩, gTB_at 266 rfl rfl, gTB_at 267 rfl rfl⟩
theorem kX6_good : gCalV yX6_good cX6_good 2 (some .int) 1 := ⟨⟨gTB_at 273 rfl rfl, qi_X6, by decide +kernel, by decide +kernel, by decide +kernel⟩, gTB_at 271 rfl rfl, gTB_at 272 rfl rfl⟩
theorem kX3_isGood : gCalV yX3_isGood cX3_isGood 1 (some .boolean) 0 := ⟨⟨gTB_at 277 rfl rfl, qi_X3, by decide +kernel, by decide +kernel, by decide +kernel⟩, gTB_at 275 rfl rfl, gTB_at 276 rfl rfl⟩
theorem kX3_ballCount : gCalV yX3_ballCount cX3_ballCount 3 (some .int) 0 := ⟨⟨gTB_at 283 rfl rfl, qi_X3, by decide +kernel, by decide +kernel, by decide +kernel⟩, gTB_at 281 rfl rfl, gTB_at 282 rfl rfl⟩
theorem kX3_greatestHeight : gCalV yX3_greatestHeight cX3_greatestHeight 3 (some .int) 0 := ⟨⟨gTB_at 287 rfl rfl, qi_X3, by decide +kernel, by decide +kernel, by decide +kernel⟩, gTB_at 285 rfl rfl, gTB_at 286 rfl rfl⟩
theorem kJ9_max_7cf53 : gCalS yJ9_max_7cf53 cJ9_max_7cf53 2 (some .int) 2 := ⟨⟨gTB_at 290 rfl rfl, qi_J9, by decide +kernel, by decide +kernel, by decide +kernel⟩, gTB_at 289 rfl rfl⟩
theorem kX3_isPrime : gCalV yX3_isPrime cX3_isPrime 3 (some .boolean) 0 := ⟨⟨gTB_at 294 rfl rfl, qi_X3, by decide +kernel, by decide +kernel, by decide +kernel⟩, gTB_at 292 rfl rfl, gTB_at 293 rfl rfl⟩
theorem kX3_stateAhead : gCalV yX3_stateAhead cX3_stateAhead 5 (some .int) 1 := ⟨⟨gTB_at 298 rfl rfl, qi_X3, by decide +kernel, by decide +kernel, by decide +kernel⟩, gTB_at 296 rfl rfl, gTB_at 297 rfl rfl⟩
set_option maxRecDepth 20000 in
theorem kX3_isGround : gCalV yX3_isGround cX3_isGround 3 (some .boolean) 0 := ⟨⟨gTB_at 302 rfl rfl, qi_X3, by decide +kernel, by decide +kernel, by decide +kernel⟩, gTB_at 300 rfl rfl, gTB_at 301 rfl rfl⟩
set_option maxRecDepth 20000 in
theorem kX3_orbitsBelow : gCalV yX3_orbitsBelow cX3_orbitsBelow 4 (some .int) 1 := ⟨⟨gTB_at 307 rfl rfl, qi_X3, by decide +kernel, by decide +kernel, by decide +kernel⟩, gTB_at 305 rfl rfl, gTB_at 306 rfl rfl⟩
set_option maxRecDepth 20000 in
theorem kX3_leastInOrbit : gCalV yX3_leastInOrbit cX3_leastInOrbit 5 (some .int) 1 := ⟨⟨gTB_at 311 rfl rfl, qi_X3, by decide +kernel, by decide +kernel, by decide +kernel⟩, gTB_at 309 rfl rfl, gTB_at 310 rfl rfl⟩
set_option maxRecDepth 20000 in
theorem kJ9_min_7cf53 : gCalS yJ9_min_7cf53 cJ9_min_7cf53 2 (some .int) 2 := ⟨⟨gTB_at 314 rfl rfl, qi_J9, by decide +kernel, by decide +kernel, by decide +kernel⟩, gTB_at 313 rfl rfl⟩
set_option maxRecDepth 20000 in
theorem kX6_state : gCalV yX6_state cX6_state 2 (some .int) 1 := ⟨⟨gTB_at 318 rfl rfl, qi_X6, by decide +kernel, by decide +kernel, by decide +kernel⟩, gTB_at 316 rfl rfl, gTB_at 317 rfl rfl⟩
set_option maxRecDepth 20000 in
theorem kX6_ball : gCalV yX6_ball cX6_ball 4 (some .int) 1 := ⟨⟨gTB_at 323 rfl rfl, qi_X6, by decide +kernel, by decide +kernel, by decide +kernel⟩, gTB_at 321 rfl rfl, gTB_at 322 rfl rfl⟩
set_option maxRecDepth 20000 in
theorem kX1_begin : gCalV yX1_begin cX1_begin 1 none 0 := ⟨⟨gTB_at 327 rfl rfl, qi_X1, by decide +kernel, by decide +kernel, by decide +kernel⟩, gTB_at 325 rfl rfl, gTB_at 326 rfl rfl⟩
set_option maxRecDepth 20000 in
theorem kX1_pass : gCalV yX1_pass cX1_pass 5 (some .int) 2 := ⟨⟨gTB_at 332 rfl rfl, qi_X1, by decide +kernel, by decide +kernel, by decide +kernel⟩, gTB_at 330 rfl rfl, gTB_at 331 rfl rfl⟩
set_option maxRecDepth 20000 in
theorem kX6_orbit : gCalV yX6_orbit cX6_orbit 2 (some .int) 1 := ⟨⟨gTB_at 336 rfl rfl, qi_X6, by decide +kernel, by decide +kernel, by decide +kernel⟩, gTB_at 334 rfl rfl, gTB_at 335 rfl rfl⟩
set_option maxRecDepth 20000 in
theorem kX6_hands : gCalV yX6_hands cX6_hands 3 (some .int) 1 := ⟨⟨gTB_at 341 rfl rfl, qi_X6, by decide +kernel, by decide +kernel, by decide +kernel⟩, gTB_at 339 rfl rfl, gTB_at 340 rfl rfl⟩
set_option maxRecDepth 20000 in
theorem kX6_beat : gCalV yX6_beat cX6_beat 4 (some .int) 2 := ⟨⟨gTB_at 345 rfl rfl, qi_X6, by decide +kernel, by decide +kernel, by decide +kernel⟩, gTB_at 343 rfl rfl, gTB_at 344 rfl rfl⟩
set_option maxRecDepth 20000 in
theorem kX6_handIn : gCalV yX6_handIn cX6_handIn 2 (some .int) 1 := ⟨⟨gTB_at 349 rfl rfl, qi_X6, by decide +kernel, by decide +kernel, by decide +kernel⟩, gTB_at 348 rfl rfl, gTB_at 1 rfl rfl⟩
set_option maxRecDepth 20000 in
theorem kJ6_bitCount_0f7a4 : gCalS yJ6_bitCount_0f7a4 cJ6_bitCount_0f7a4 1 (some .int) 1 := ⟨⟨gTB_at 352 rfl rfl, qi_J6, by decide +kernel, by decide +kernel, by decide +kernel⟩, gTB_at 351 rfl rfl⟩
set_option maxRecDepth 20000 in
theorem kX6_swap : gCalV yX6_swap cX6_swap 5 (some .int) 2 := ⟨⟨gTB_at 359 rfl rfl, qi_X6, by decide +kernel, by decide +kernel, by decide +kernel⟩, gTB_at 357 rfl rfl, gTB_at 358 rfl rfl⟩
set_option maxRecDepth 20000 in
theorem kX6_turn : gCalV yX6_turn cX6_turn 2 (some .int) 1 := ⟨⟨gTB_at 363 rfl rfl, qi_X6, by decide +kernel, by decide +kernel, by decide +kernel⟩, gTB_at 361 rfl rfl, gTB_at 362 rfl rfl⟩
set_option maxRecDepth 20000 in
theorem kX3_take : gCalV yX3_take cX3_take 2 none 1 := ⟨⟨gTB_at 367 rfl rfl, qi_X3, by decide +kernel, by decide +kernel, by decide +kernel⟩, gTB_at 365 rfl rfl, gTB_at 366 rfl rfl⟩
set_option maxRecDepth 20000 in
theorem kX3_takeTurned : gCalV yX3_takeTurned cX3_takeTurned 4 none 2 := ⟨⟨gTB_at 371 rfl rfl, qi_X3, by decide +kernel, by decide +kernel, by decide +kernel⟩, gTB_at 369 rfl rfl, gTB_at 370 rfl rfl⟩
set_option maxRecDepth 20000 in
theorem kX6_backward : gCalV yX6_backward cX6_backward 1 (some .int) 0 := ⟨⟨gTB_at 377 rfl rfl, qi_X6, by decide +kernel, by decide +kernel, by decide +kernel⟩, gTB_at 375 rfl rfl, gTB_at 376 rfl rfl⟩
set_option maxRecDepth 20000 in
theorem kX3_takeBackward : gCalV yX3_takeBackward cX3_takeBackward 3 none 1 := ⟨⟨gTB_at 381 rfl rfl, qi_X3, by decide +kernel, by decide +kernel, by decide +kernel⟩, gTB_at 379 rfl rfl, gTB_at 380 rfl rfl⟩
set_option maxRecDepth 20000 in
theorem kX6_greatest : gCalV yX6_greatest cX6_greatest 2 (some .int) 1 := ⟨⟨gTB_at 385 rfl rfl, qi_X6, by decide +kernel, by decide +kernel, by decide +kernel⟩, gTB_at 383 rfl rfl, gTB_at 384 rfl rfl⟩
set_option maxRecDepth 20000 in
theorem kX3_greatestTurn : gCalV yX3_greatestTurn cX3_greatestTurn 3 (some .int) 0 := ⟨⟨gTB_at 389 rfl rfl, qi_X3, by decide +kernel, by decide +kernel, by decide +kernel⟩, gTB_at 387 rfl rfl, gTB_at 388 rfl rfl⟩
set_option maxRecDepth 20000 in
theorem kX3_isTurnGreater : gCalV yX3_isTurnGreater cX3_isTurnGreater 5 (some .boolean) 2 := ⟨⟨gTB_at 393 rfl rfl, qi_X3, by decide +kernel, by decide +kernel, by decide +kernel⟩, gTB_at 392 rfl rfl, gTB_at 2 rfl rfl⟩
set_option maxRecDepth 20000 in
theorem kX6_keep : gCalV yX6_keep cX6_keep 2 (some .int) 1 := ⟨⟨gTB_at 397 rfl rfl, qi_X6, by decide +kernel, by decide +kernel, by decide +kernel⟩, gTB_at 395 rfl rfl, gTB_at 396 rfl rfl⟩
set_option maxRecDepth 20000 in
theorem kX6_isImage : gCalS yX6_isImage cX6_isImage 1 (some .boolean) 1 := ⟨⟨gTB_at 400 rfl rfl, qi_X6, by decide +kernel, by decide +kernel, by decide +kernel⟩, gTB_at 399 rfl rfl⟩
set_option maxRecDepth 20000 in
theorem kX6_back : gCalV yX6_back cX6_back 2 (some .int) 1 := ⟨⟨gTB_at 404 rfl rfl, qi_X6, by decide +kernel, by decide +kernel, by decide +kernel⟩, gTB_at 402 rfl rfl, gTB_at 403 rfl rfl⟩
set_option maxRecDepth 20000 in
theorem kX6_like : gCalV yX6_like cX6_like 2 (some .int) 1 := ⟨⟨gTB_at 408 rfl rfl, qi_X6, by decide +kernel, by decide +kernel, by decide +kernel⟩, gTB_at 406 rfl rfl, gTB_at 407 rfl rfl⟩
set_option maxRecDepth 20000 in
theorem kX3_isTurned : gCalV yX3_isTurned cX3_isTurned 5 (some .boolean) 1 := ⟨⟨gTB_at 412 rfl rfl, qi_X3, by decide +kernel, by decide +kernel, by decide +kernel⟩, gTB_at 410 rfl rfl, gTB_at 411 rfl rfl⟩
set_option maxRecDepth 20000 in
theorem kX6_howMany : gCalV yX6_howMany cX6_howMany 5 (some .long) 3 := ⟨⟨gTB_at 417 rfl rfl, qi_X6, by decide +kernel, by decide +kernel, by decide +kernel⟩, gTB_at 415 rfl rfl, gTB_at 416 rfl rfl⟩
set_option maxRecDepth 20000 in
theorem kX0_allow : gCalV yX0_allow cX0_allow 4 none 3 := ⟨⟨gTB_at 422 rfl rfl, qi_X0, by decide +kernel, by decide +kernel, by decide +kernel⟩, gTB_at 420 rfl rfl, gTB_at 421 rfl rfl⟩
set_option maxRecDepth 20000 in
theorem kX0_count : gCalV yX0_count cX0_count 7 (some .int) 2 := ⟨⟨gTB_at 427 rfl rfl, qi_X0, by decide +kernel, by decide +kernel, by decide +kernel⟩, gTB_at 425 rfl rfl, gTB_at 426 rfl rfl⟩
set_option maxRecDepth 20000 in
theorem kX0_addThrow : gCalV yX0_addThrow cX0_addThrow 10 none 4 := ⟨⟨gTB_at 433 rfl rfl, qi_X0, by decide +kernel, by decide +kernel, by decide +kernel⟩, gTB_at 432 rfl rfl, gTB_at 3 rfl rfl⟩
set_option maxRecDepth 20000 in
theorem kX6_way : gCalV yX6_way cX6_way 5 (some .int) 4 := ⟨⟨gTB_at 437 rfl rfl, qi_X6, by decide +kernel, by decide +kernel, by decide +kernel⟩, gTB_at 435 rfl rfl, gTB_at 436 rfl rfl⟩
set_option maxRecDepth 20000 in
theorem kX5_measure : gCalV yX5_measure cX5_measure 4 none 2 := ⟨⟨gTB_at 441 rfl rfl, qi_X5, by decide +kernel, by decide +kernel, by decide +kernel⟩, gTB_at 439 rfl rfl, gTB_at 440 rfl rfl⟩
set_option maxRecDepth 20000 in
theorem kX5_reach : gCalV yX5_reach cX5_reach 3 none 2 := ⟨⟨gTB_at 446 rfl rfl, qi_X5, by decide +kernel, by decide +kernel, by decide +kernel⟩, gTB_at 445 rfl rfl, gTB_at 4 rfl rfl⟩
set_option maxRecDepth 20000 in
theorem kX5_reachFrom : gCalV yX5_reachFrom cX5_reachFrom 6 none 2 := ⟨⟨gTB_at 451 rfl rfl, qi_X5, by decide +kernel, by decide +kernel, by decide +kernel⟩, gTB_at 450 rfl rfl, gTB_at 5 rfl rfl⟩
set_option maxRecDepth 20000 in
theorem kX5_beatsFrom : gCalV yX5_beatsFrom cX5_beatsFrom 2 (some .int) 1 := ⟨⟨gTB_at 455 rfl rfl, qi_X5, by decide +kernel, by decide +kernel, by decide +kernel⟩, gTB_at 453 rfl rfl, gTB_at 454 rfl rfl⟩
set_option maxRecDepth 20000 in
theorem kX5_throwOnWay : gCalV yX5_throwOnWay cX5_throwOnWay 7 (some .int) 3 := ⟨⟨gTB_at 460 rfl rfl, qi_X5, by decide +kernel, by decide +kernel, by decide +kernel⟩, gTB_at 458 rfl rfl, gTB_at 459 rfl rfl⟩
set_option maxRecDepth 20000 in
theorem kX5_leastThrow : gCalV yX5_leastThrow cX5_leastThrow 5 (some .int) 2 := ⟨⟨gTB_at 464 rfl rfl, qi_X5, by decide +kernel, by decide +kernel, by decide +kernel⟩, gTB_at 463 rfl rfl, gTB_at 6 rfl rfl⟩
set_option maxRecDepth 20000 in
theorem kX5_stateBehind : gCalS yX5_stateBehind cX5_stateBehind 3 (some .int) 2 := ⟨⟨gTB_at 467 rfl rfl, qi_X5, by decide +kernel, by decide +kernel, by decide +kernel⟩, gTB_at 466 rfl rfl⟩
set_option maxRecDepth 20000 in
theorem kX6_filled : gCalV yX6_filled cX6_filled 8 (some .long) 6 := ⟨⟨gTB_at 471 rfl rfl, qi_X6, by decide +kernel, by decide +kernel, by decide +kernel⟩, gTB_at 469 rfl rfl, gTB_at 470 rfl rfl⟩
set_option maxRecDepth 20000 in
theorem kX6_areOpenOrThrows : gCalS yX6_areOpenOrThrows cX6_areOpenOrThrows 4 (some .boolean) 3 := ⟨⟨gTB_at 474 rfl rfl, qi_X6, by decide +kernel, by decide +kernel, by decide +kernel⟩, gTB_at 473 rfl rfl⟩
set_option maxRecDepth 20000 in
theorem kX6_allowCells : gCalV yX6_allowCells cX6_allowCells 6 none 3 := ⟨⟨gTB_at 478 rfl rfl, qi_X6, by decide +kernel, by decide +kernel, by decide +kernel⟩, gTB_at 477 rfl rfl, gTB_at 7 rfl rfl⟩
set_option maxRecDepth 20000 in
theorem kX0_throwOfFirst : gCalV yX0_throwOfFirst cX0_throwOfFirst 8 (some .int) 3 := ⟨⟨gTB_at 482 rfl rfl, qi_X0, by decide +kernel, by decide +kernel, by decide +kernel⟩, gTB_at 480 rfl rfl, gTB_at 481 rfl rfl⟩
set_option maxRecDepth 20000 in
theorem kX0_firstThrow : gCalV yX0_firstThrow cX0_firstThrow 8 (some .int) 3 := ⟨⟨gTB_at 486 rfl rfl, qi_X0, by decide +kernel, by decide +kernel, by decide +kernel⟩, gTB_at 485 rfl rfl, gTB_at 8 rfl rfl⟩
set_option maxRecDepth 20000 in
theorem kX6_kind : gCalV yX6_kind cX6_kind 4 (some .int) 2 := ⟨⟨gTB_at 490 rfl rfl, qi_X6, by decide +kernel, by decide +kernel, by decide +kernel⟩, gTB_at 488 rfl rfl, gTB_at 489 rfl rfl⟩
set_option maxRecDepth 20000 in
theorem kX6_isBall : gCalS yX6_isBall cX6_isBall 1 (some .boolean) 1 := ⟨⟨gTB_at 493 rfl rfl, qi_X6, by decide +kernel, by decide +kernel, by decide +kernel⟩, gTB_at 492 rfl rfl⟩
set_option maxRecDepth 20000 in
theorem kX6_isKind : gCalS yX6_isKind cX6_isKind 1 (some .boolean) 1 := ⟨⟨gTB_at 496 rfl rfl, qi_X6, by decide +kernel, by decide +kernel, by decide +kernel⟩, gTB_at 495 rfl rfl⟩
set_option maxRecDepth 20000 in
theorem kX2_kindOf : gCalV yX2_kindOf cX2_kindOf 2 (some .int) 1 := ⟨⟨gTB_at 500 rfl rfl, qi_X2, by decide +kernel, by decide +kernel, by decide +kernel⟩, gTB_at 498 rfl rfl, gTB_at 499 rfl rfl⟩
set_option maxRecDepth 20000 in
theorem kX2_setKind : gCalV yX2_setKind cX2_setKind 3 none 2 := ⟨⟨gTB_at 505 rfl rfl, qi_X2, by decide +kernel, by decide +kernel, by decide +kernel⟩, gTB_at 503 rfl rfl, gTB_at 504 rfl rfl⟩
set_option maxRecDepth 20000 in
theorem kX6_broken : gCalV yX6_broken cX6_broken 4 (some .int) 0 := ⟨⟨gTB_at 509 rfl rfl, qi_X6, by decide +kernel, by decide +kernel, by decide +kernel⟩, gTB_at 507 rfl rfl, gTB_at 508 rfl rfl⟩
set_option maxRecDepth 20000 in
theorem kX2_mayGo : gCalV yX2_mayGo cX2_mayGo 2 (some .int) 1 := ⟨⟨gTB_at 513 rfl rfl, qi_X2, by decide +kernel, by decide +kernel, by decide +kernel⟩, gTB_at 511 rfl rfl, gTB_at 512 rfl rfl⟩
set_option maxRecDepth 20000 in
theorem kX6_drop : gCalV yX6_drop cX6_drop 3 (some .int) 1 := ⟨⟨gTB_at 518 rfl rfl, qi_X6, by decide +kernel, by decide +kernel, by decide +kernel⟩, gTB_at 516 rfl rfl, gTB_at 517 rfl rfl⟩
set_option maxRecDepth 20000 in
theorem kX6_empty : gCalV yX6_empty cX6_empty 5 (some .int) 1 := ⟨⟨gTB_at 522 rfl rfl, qi_X6, by decide +kernel, by decide +kernel, by decide +kernel⟩, gTB_at 520 rfl rfl, gTB_at 521 rfl rfl⟩
set_option maxRecDepth 20000 in
theorem kX6_sheet : gCalV yX6_sheet cX6_sheet 4 (some .int) 3 := ⟨⟨gTB_at 526 rfl rfl, qi_X6, by decide +kernel, by decide +kernel, by decide +kernel⟩, gTB_at 524 rfl rfl, gTB_at 525 rfl rfl⟩
set_option maxRecDepth 20000 in
theorem kX6_faulted : gCalV yX6_faulted cX6_faulted 2 (some .int) 1 := ⟨⟨gTB_at 530 rfl rfl, qi_X6, by decide +kernel, by decide +kernel, by decide +kernel⟩, gTB_at 529 rfl rfl, gTB_at 9 rfl rfl⟩
set_option maxRecDepth 20000 in
theorem kX4_renew : gCalV yX4_renew cX4_renew 3 none 2 := ⟨⟨gTB_at 534 rfl rfl, qi_X4, by decide +kernel, by decide +kernel, by decide +kernel⟩, gTB_at 532 rfl rfl, gTB_at 533 rfl rfl⟩
set_option maxRecDepth 20000 in
theorem kX6_lose : gCalV yX6_lose cX6_lose 2 (some .int) 1 := ⟨⟨gTB_at 539 rfl rfl, qi_X6, by decide +kernel, by decide +kernel, by decide +kernel⟩, gTB_at 537 rfl rfl, gTB_at 538 rfl rfl⟩
set_option maxRecDepth 20000 in
theorem kX4_clear : gCalV yX4_clear cX4_clear 2 (some .boolean) 0 := ⟨⟨gTB_at 543 rfl rfl, qi_X4, by decide +kernel, by decide +kernel, by decide +kernel⟩, gTB_at 541 rfl rfl, gTB_at 542 rfl rfl⟩
set_option maxRecDepth 20000 in
theorem kX6_put : gCalV yX6_put cX6_put 4 (some .int) 3 := ⟨⟨gTB_at 547 rfl rfl, qi_X6, by decide +kernel, by decide +kernel, by decide +kernel⟩, gTB_at 545 rfl rfl, gTB_at 546 rfl rfl⟩
set_option maxRecDepth 20000 in
theorem kX4_write : gCalV yX4_write cX4_write 3 none 2 := ⟨⟨gTB_at 553 rfl rfl, qi_X4, by decide +kernel, by decide +kernel, by decide +kernel⟩, gTB_at 551 rfl rfl, gTB_at 552 rfl rfl⟩
set_option maxRecDepth 20000 in
theorem kX4_cutToSort : gCalV yX4_cutToSort cX4_cutToSort 2 (some .int) 1 := ⟨⟨gTB_at 557 rfl rfl, qi_X4, by decide +kernel, by decide +kernel, by decide +kernel⟩, gTB_at 556 rfl rfl, gTB_at 10 rfl rfl⟩
set_option maxRecDepth 20000 in
theorem kX6_cell : gCalV yX6_cell cX6_cell 4 (some .long) 3 := ⟨⟨gTB_at 561 rfl rfl, qi_X6, by decide +kernel, by decide +kernel, by decide +kernel⟩, gTB_at 559 rfl rfl, gTB_at 560 rfl rfl⟩
set_option maxRecDepth 20000 in
theorem kX6_copy : gCalV yX6_copy cX6_copy 8 (some .int) 5 := ⟨⟨gTB_at 565 rfl rfl, qi_X6, by decide +kernel, by decide +kernel, by decide +kernel⟩, gTB_at 563 rfl rfl, gTB_at 564 rfl rfl⟩
set_option maxRecDepth 20000 in
theorem kX6_tell : gCalV yX6_tell cX6_tell 2 (some .int) 1 := ⟨⟨gTB_at 572 rfl rfl, qi_X6, by decide +kernel, by decide +kernel, by decide +kernel⟩, gTB_at 570 rfl rfl, gTB_at 571 rfl rfl⟩
set_option maxRecDepth 20000 in
theorem kX2_telling : gCalV yX2_telling cX2_telling 2 (some .int) 1 := ⟨⟨gTB_at 576 rfl rfl, qi_X2, by decide +kernel, by decide +kernel, by decide +kernel⟩, gTB_at 574 rfl rfl, gTB_at 575 rfl rfl⟩
set_option maxRecDepth 20000 in
theorem kX2_tellingOfEgg : gCalV yX2_tellingOfEgg cX2_tellingOfEgg 2 (some .int) 1 := ⟨⟨gTB_at 580 rfl rfl, qi_X2, by decide +kernel, by decide +kernel, by decide +kernel⟩, gTB_at 579 rfl rfl, gTB_at 11 rfl rfl⟩
set_option maxRecDepth 20000 in
theorem kX2_leave : gCalV yX2_leave cX2_leave 2 none 1 := ⟨⟨gTB_at 584 rfl rfl, qi_X2, by decide +kernel, by decide +kernel, by decide +kernel⟩, gTB_at 583 rfl rfl, gTB_at 12 rfl rfl⟩
set_option maxRecDepth 20000 in
theorem kX2_tellingOfHeavy : gCalV yX2_tellingOfHeavy cX2_tellingOfHeavy 2 (some .int) 1 := ⟨⟨gTB_at 588 rfl rfl, qi_X2, by decide +kernel, by decide +kernel, by decide +kernel⟩, gTB_at 587 rfl rfl, gTB_at 13 rfl rfl⟩
set_option maxRecDepth 20000 in
theorem kX2_tellingOfBall : gCalV yX2_tellingOfBall cX2_tellingOfBall 2 (some .int) 1 := ⟨⟨gTB_at 592 rfl rfl, qi_X2, by decide +kernel, by decide +kernel, by decide +kernel⟩, gTB_at 591 rfl rfl, gTB_at 14 rfl rfl⟩
set_option maxRecDepth 20000 in
theorem kX6_call : gCalV yX6_call cX6_call 2 (some .int) 1 := ⟨⟨gTB_at 596 rfl rfl, qi_X6, by decide +kernel, by decide +kernel, by decide +kernel⟩, gTB_at 594 rfl rfl, gTB_at 595 rfl rfl⟩
set_option maxRecDepth 20000 in
theorem kX2_calling : gCalV yX2_calling cX2_calling 2 (some .int) 1 := ⟨⟨gTB_at 600 rfl rfl, qi_X2, by decide +kernel, by decide +kernel, by decide +kernel⟩, gTB_at 598 rfl rfl, gTB_at 599 rfl rfl⟩
set_option maxRecDepth 20000 in
theorem kX6_as : gCalV yX6_as cX6_as 3 (some .int) 2 := ⟨⟨gTB_at 605 rfl rfl, qi_X6, by decide +kernel, by decide +kernel, by decide +kernel⟩, gTB_at 603 rfl rfl, gTB_at 604 rfl rfl⟩
set_option maxRecDepth 20000 in
theorem kX6_trace : gCalV yX6_trace cX6_trace 1 (some .int) 0 := ⟨⟨gTB_at 609 rfl rfl, qi_X6, by decide +kernel, by decide +kernel, by decide +kernel⟩, gTB_at 607 rfl rfl, gTB_at 608 rfl rfl⟩
set_option maxRecDepth 20000 in
theorem kX6_fault : gCalV yX6_fault cX6_fault 1 (some .int) 0 := ⟨⟨gTB_at 613 rfl rfl, qi_X6, by decide +kernel, by decide +kernel, by decide +kernel⟩, gTB_at 611 rfl rfl, gTB_at 612 rfl rfl⟩
set_option maxRecDepth 20000 in
theorem kX6_many : gCalV yX6_many cX6_many 2 (some .int) 1 := ⟨⟨gTB_at 617 rfl rfl, qi_X6, by decide +kernel, by decide +kernel, by decide +kernel⟩, gTB_at 615 rfl rfl, gTB_at 616 rfl rfl⟩
set_option maxRecDepth 20000 in
theorem kX6_imageCount : gCalV yX6_imageCount cX6_imageCount 3 (some .int) 0 := ⟨⟨gTB_at 621 rfl rfl, qi_X6, by decide +kernel, by decide +kernel, by decide +kernel⟩, gTB_at 620 rfl rfl, gTB_at 15 rfl rfl⟩
set_option maxRecDepth 20000 in
theorem kX7_pattern : gCalV yX7_pattern cX7_pattern 9 (some .int) 4 := ⟨⟨gTB_at 693 rfl rfl, qi_X7, by decide +kernel, by decide +kernel, by decide +kernel⟩, gTB_at 691 rfl rfl, gTB_at 692 rfl rfl⟩
set_option maxRecDepth 20000 in
theorem kX7_isSheet : gCalS yX7_isSheet cX7_isSheet 1 (some .boolean) 1 := ⟨⟨gTB_at 696 rfl rfl, qi_X7, by decide +kernel, by decide +kernel, by decide +kernel⟩, gTB_at 695 rfl rfl⟩
set_option maxRecDepth 20000 in
theorem kX7_within : gCalS yX7_within cX7_within 3 (some .boolean) 3 := ⟨⟨gTB_at 699 rfl rfl, qi_X7, by decide +kernel, by decide +kernel, by decide +kernel⟩, gTB_at 698 rfl rfl⟩
set_option maxRecDepth 20000 in
theorem kX7_isSort : gCalS yX7_isSort cX7_isSort 1 (some .boolean) 1 := ⟨⟨gTB_at 702 rfl rfl, qi_X7, by decide +kernel, by decide +kernel, by decide +kernel⟩, gTB_at 701 rfl rfl⟩
set_option maxRecDepth 20000 in
theorem kX7_against : gCalV yX7_against cX7_against 5 (some .int) 4 := ⟨⟨gTB_at 706 rfl rfl, qi_X7, by decide +kernel, by decide +kernel, by decide +kernel⟩, gTB_at 705 rfl rfl, gTB_at 16 rfl rfl⟩
set_option maxRecDepth 20000 in
theorem kX7_fails : gCalV yX7_fails cX7_fails 2 (some .int) 1 := ⟨⟨gTB_at 710 rfl rfl, qi_X7, by decide +kernel, by decide +kernel, by decide +kernel⟩, gTB_at 709 rfl rfl, gTB_at 17 rfl rfl⟩
set_option maxRecDepth 20000 in
theorem kX7_throwOf : gCalV yX7_throwOf cX7_throwOf 2 (some .int) 1 := ⟨⟨gTB_at 714 rfl rfl, qi_X7, by decide +kernel, by decide +kernel, by decide +kernel⟩, gTB_at 712 rfl rfl, gTB_at 713 rfl rfl⟩
set_option maxRecDepth 20000 in
theorem kX7_isBeat : gCalV yX7_isBeat cX7_isBeat 2 (some .boolean) 1 := ⟨⟨gTB_at 718 rfl rfl, qi_X7, by decide +kernel, by decide +kernel, by decide +kernel⟩, gTB_at 717 rfl rfl, gTB_at 18 rfl rfl⟩
set_option maxRecDepth 20000 in
theorem kX7_clash : gCalV yX7_clash cX7_clash 1 (some .int) 0 := ⟨⟨gTB_at 722 rfl rfl, qi_X7, by decide +kernel, by decide +kernel, by decide +kernel⟩, gTB_at 720 rfl rfl, gTB_at 721 rfl rfl⟩
set_option maxRecDepth 20000 in
theorem kX7_findClash : gCalV yX7_findClash cX7_findClash 3 (some .int) 0 := ⟨⟨gTB_at 726 rfl rfl, qi_X7, by decide +kernel, by decide +kernel, by decide +kernel⟩, gTB_at 725 rfl rfl, gTB_at 19 rfl rfl⟩
set_option maxRecDepth 20000 in
theorem kX7_landsIn : gCalV yX7_landsIn cX7_landsIn 2 (some .int) 1 := ⟨⟨gTB_at 730 rfl rfl, qi_X7, by decide +kernel, by decide +kernel, by decide +kernel⟩, gTB_at 729 rfl rfl, gTB_at 20 rfl rfl⟩
set_option maxRecDepth 20000 in
theorem kX7_good : gCalV yX7_good cX7_good 2 (some .int) 1 := ⟨⟨gTB_at 734 rfl rfl, qi_X7, by decide +kernel, by decide +kernel, by decide +kernel⟩, gTB_at 732 rfl rfl, gTB_at 733 rfl rfl⟩
set_option maxRecDepth 20000 in
theorem kX7_isGood : gCalV yX7_isGood cX7_isGood 1 (some .boolean) 0 := ⟨⟨gTB_at 738 rfl rfl, qi_X7, by decide +kernel, by decide +kernel, by decide +kernel⟩, gTB_at 737 rfl rfl, gTB_at 21 rfl rfl⟩
set_option maxRecDepth 20000 in
theorem kX7_balls : gCalV yX7_balls cX7_balls 3 (some .int) 0 := ⟨⟨gTB_at 742 rfl rfl, qi_X7, by decide +kernel, by decide +kernel, by decide +kernel⟩, gTB_at 741 rfl rfl, gTB_at 22 rfl rfl⟩
set_option maxRecDepth 20000 in
theorem kX7_greatestThrow : gCalV yX7_greatestThrow cX7_greatestThrow 3 (some .int) 0 := ⟨⟨gTB_at 746 rfl rfl, qi_X7, by decide +kernel, by decide +kernel, by decide +kernel⟩, gTB_at 745 rfl rfl, gTB_at 23 rfl rfl⟩
set_option maxRecDepth 20000 in
theorem kX7_isPrime : gCalV yX7_isPrime cX7_isPrime 3 (some .boolean) 0 := ⟨⟨gTB_at 750 rfl rfl, qi_X7, by decide +kernel, by decide +kernel, by decide +kernel⟩, gTB_at 749 rfl rfl, gTB_at 24 rfl rfl⟩
set_option maxRecDepth 20000 in
theorem kX7_stateAhead : gCalV yX7_stateAhead cX7_stateAhead 5 (some .int) 1 := ⟨⟨gTB_at 754 rfl rfl, qi_X7, by decide +kernel, by decide +kernel, by decide +kernel⟩, gTB_at 753 rfl rfl, gTB_at 25 rfl rfl⟩
set_option maxRecDepth 20000 in
theorem kX7_isGround : gCalV yX7_isGround cX7_isGround 2 (some .boolean) 0 := ⟨⟨gTB_at 758 rfl rfl, qi_X7, by decide +kernel, by decide +kernel, by decide +kernel⟩, gTB_at 757 rfl rfl, gTB_at 26 rfl rfl⟩
set_option maxRecDepth 20000 in
theorem kX7_findOrbits : gCalV yX7_findOrbits cX7_findOrbits 4 (some .int) 0 := ⟨⟨gTB_at 762 rfl rfl, qi_X7, by decide +kernel, by decide +kernel, by decide +kernel⟩, gTB_at 761 rfl rfl, gTB_at 27 rfl rfl⟩
set_option maxRecDepth 20000 in
theorem kX7_state : gCalV yX7_state cX7_state 2 (some .int) 1 := ⟨⟨gTB_at 766 rfl rfl, qi_X7, by decide +kernel, by decide +kernel, by decide +kernel⟩, gTB_at 764 rfl rfl, gTB_at 765 rfl rfl⟩
set_option maxRecDepth 20000 in
theorem kX7_ball : gCalV yX7_ball cX7_ball 2 (some .int) 1 := ⟨⟨gTB_at 770 rfl rfl, qi_X7, by decide +kernel, by decide +kernel, by decide +kernel⟩, gTB_at 768 rfl rfl, gTB_at 769 rfl rfl⟩
set_option maxRecDepth 20000 in
theorem kX7_layBalls : gCalV yX7_layBalls cX7_layBalls 4 none 0 := ⟨⟨gTB_at 774 rfl rfl, qi_X7, by decide +kernel, by decide +kernel, by decide +kernel⟩, gTB_at 773 rfl rfl, gTB_at 28 rfl rfl⟩
set_option maxRecDepth 20000 in
theorem kX7_orbit : gCalV yX7_orbit cX7_orbit 2 (some .int) 1 := ⟨⟨gTB_at 778 rfl rfl, qi_X7, by decide +kernel, by decide +kernel, by decide +kernel⟩, gTB_at 776 rfl rfl, gTB_at 777 rfl rfl⟩
set_option maxRecDepth 20000 in
theorem kX7_hands : gCalV yX7_hands cX7_hands 3 (some .int) 1 := ⟨⟨gTB_at 782 rfl rfl, qi_X7, by decide +kernel, by decide +kernel, by decide +kernel⟩, gTB_at 780 rfl rfl, gTB_at 781 rfl rfl⟩
set_option maxRecDepth 20000 in
theorem kX7_beat : gCalV yX7_beat cX7_beat 4 (some .int) 2 := ⟨⟨gTB_at 786 rfl rfl, qi_X7, by decide +kernel, by decide +kernel, by decide +kernel⟩, gTB_at 784 rfl rfl, gTB_at 785 rfl rfl⟩
set_option maxRecDepth 20000 in
theorem kX7_size : gCalS yX7_size cX7_size 3 (some .int) 1 := ⟨⟨gTB_at 789 rfl rfl, qi_X7, by decide +kernel, by decide +kernel, by decide +kernel⟩, gTB_at 788 rfl rfl⟩
set_option maxRecDepth 20000 in
theorem kX7_swap : gCalV yX7_swap cX7_swap 5 (some .int) 2 := ⟨⟨gTB_at 793 rfl rfl, qi_X7, by decide +kernel, by decide +kernel, by decide +kernel⟩, gTB_at 791 rfl rfl, gTB_at 792 rfl rfl⟩
set_option maxRecDepth 20000 in
theorem kX7_turn : gCalV yX7_turn cX7_turn 3 (some .int) 1 := ⟨⟨gTB_at 797 rfl rfl, qi_X7, by decide +kernel, by decide +kernel, by decide +kernel⟩, gTB_at 795 rfl rfl, gTB_at 796 rfl rfl⟩
set_option maxRecDepth 20000 in
theorem kX7_takeNext : gCalV yX7_takeNext cX7_takeNext 2 none 0 := ⟨⟨gTB_at 801 rfl rfl, qi_X7, by decide +kernel, by decide +kernel, by decide +kernel⟩, gTB_at 800 rfl rfl, gTB_at 29 rfl rfl⟩
set_option maxRecDepth 20000 in
theorem kX7_backward : gCalV yX7_backward cX7_backward 2 (some .int) 0 := ⟨⟨gTB_at 805 rfl rfl, qi_X7, by decide +kernel, by decide +kernel, by decide +kernel⟩, gTB_at 803 rfl rfl, gTB_at 804 rfl rfl⟩
set_option maxRecDepth 20000 in
theorem kX7_greatest : gCalV yX7_greatest cX7_greatest 4 (some .int) 1 := ⟨⟨gTB_at 809 rfl rfl, qi_X7, by decide +kernel, by decide +kernel, by decide +kernel⟩, gTB_at 807 rfl rfl, gTB_at 808 rfl rfl⟩
set_option maxRecDepth 20000 in
theorem kX7_isGreater : gCalV yX7_isGreater cX7_isGreater 6 (some .boolean) 2 := ⟨⟨gTB_at 813 rfl rfl, qi_X7, by decide +kernel, by decide +kernel, by decide +kernel⟩, gTB_at 812 rfl rfl, gTB_at 30 rfl rfl⟩
set_option maxRecDepth 20000 in
theorem kX7_keep : gCalV yX7_keep cX7_keep 3 (some .int) 1 := ⟨⟨gTB_at 817 rfl rfl, qi_X7, by decide +kernel, by decide +kernel, by decide +kernel⟩, gTB_at 815 rfl rfl, gTB_at 816 rfl rfl⟩
set_option maxRecDepth 20000 in
theorem kX7_isImage : gCalS yX7_isImage cX7_isImage 1 (some .boolean) 1 := ⟨⟨gTB_at 820 rfl rfl, qi_X7, by decide +kernel, by decide +kernel, by decide +kernel⟩, gTB_at 819 rfl rfl⟩
set_option maxRecDepth 20000 in
theorem kX7_back : gCalV yX7_back cX7_back 3 (some .int) 1 := ⟨⟨gTB_at 824 rfl rfl, qi_X7, by decide +kernel, by decide +kernel, by decide +kernel⟩, gTB_at 822 rfl rfl, gTB_at 823 rfl rfl⟩
set_option maxRecDepth 20000 in
theorem kX7_like : gCalV yX7_like cX7_like 3 (some .int) 1 := ⟨⟨gTB_at 828 rfl rfl, qi_X7, by decide +kernel, by decide +kernel, by decide +kernel⟩, gTB_at 826 rfl rfl, gTB_at 827 rfl rfl⟩
set_option maxRecDepth 20000 in
theorem kX7_isTurned : gCalV yX7_isTurned cX7_isTurned 4 (some .boolean) 2 := ⟨⟨gTB_at 832 rfl rfl, qi_X7, by decide +kernel, by decide +kernel, by decide +kernel⟩, gTB_at 831 rfl rfl, gTB_at 31 rfl rfl⟩
set_option maxRecDepth 20000 in
theorem kX7_howMany : gCalV yX7_howMany cX7_howMany 5 (some .long) 3 := ⟨⟨gTB_at 836 rfl rfl, qi_X7, by decide +kernel, by decide +kernel, by decide +kernel⟩, gTB_at 834 rfl rfl, gTB_at 835 rfl rfl⟩
set_option maxRecDepth 20000 in
theorem kX7_layFills : gCalV yX7_layFills cX7_layFills 6 none 0 := ⟨⟨gTB_at 841 rfl rfl, qi_X7, by decide +kernel, by decide +kernel, by decide +kernel⟩, gTB_at 840 rfl rfl, gTB_at 32 rfl rfl⟩
set_option maxRecDepth 20000 in
theorem kX7_spot : gCalS yX7_spot cX7_spot 2 (some .int) 2 := ⟨⟨gTB_at 844 rfl rfl, qi_X7, by decide +kernel, by decide +kernel, by decide +kernel⟩, gTB_at 843 rfl rfl⟩
set_option maxRecDepth 20000 in
theorem kX7_mayThrow : gCalV yX7_mayThrow cX7_mayThrow 3 (some .boolean) 2 := ⟨⟨gTB_at 848 rfl rfl, qi_X7, by decide +kernel, by decide +kernel, by decide +kernel⟩, gTB_at 847 rfl rfl, gTB_at 33 rfl rfl⟩
set_option maxRecDepth 20000 in
theorem kX7_addFills : gCalV yX7_addFills cX7_addFills 5 none 3 := ⟨⟨gTB_at 852 rfl rfl, qi_X7, by decide +kernel, by decide +kernel, by decide +kernel⟩, gTB_at 851 rfl rfl, gTB_at 34 rfl rfl⟩
set_option maxRecDepth 20000 in
theorem kX7_way : gCalV yX7_way cX7_way 8 (some .int) 4 := ⟨⟨gTB_at 856 rfl rfl, qi_X7, by decide +kernel, by decide +kernel, by decide +kernel⟩, gTB_at 854 rfl rfl, gTB_at 855 rfl rfl⟩
set_option maxRecDepth 20000 in
theorem kX7_findFar : gCalV yX7_findFar cX7_findFar 7 none 2 := ⟨⟨gTB_at 860 rfl rfl, qi_X7, by decide +kernel, by decide +kernel, by decide +kernel⟩, gTB_at 859 rfl rfl, gTB_at 35 rfl rfl⟩
set_option maxRecDepth 20000 in
theorem kX7_mayGo : gCalS yX7_mayGo cX7_mayGo 3 (some .boolean) 3 := ⟨⟨gTB_at 863 rfl rfl, qi_X7, by decide +kernel, by decide +kernel, by decide +kernel⟩, gTB_at 862 rfl rfl⟩
set_option maxRecDepth 20000 in
theorem kX7_goesTo : gCalS yX7_goesTo cX7_goesTo 2 (some .int) 2 := ⟨⟨gTB_at 866 rfl rfl, qi_X7, by decide +kernel, by decide +kernel, by decide +kernel⟩, gTB_at 865 rfl rfl⟩
set_option maxRecDepth 20000 in
theorem kX7_thrownTo : gCalS yX7_thrownTo cX7_thrownTo 2 (some .int) 2 := ⟨⟨gTB_at 869 rfl rfl, qi_X7, by decide +kernel, by decide +kernel, by decide +kernel⟩, gTB_at 868 rfl rfl⟩
set_option maxRecDepth 20000 in
theorem kX7_filled : gCalV yX7_filled cX7_filled 10 (some .long) 6 := ⟨⟨gTB_at 873 rfl rfl, qi_X7, by decide +kernel, by decide +kernel, by decide +kernel⟩, gTB_at 871 rfl rfl, gTB_at 872 rfl rfl⟩
set_option maxRecDepth 20000 in
theorem kX7_lost : gCalV yX7_lost cX7_lost 2 (some .long) 1 := ⟨⟨gTB_at 877 rfl rfl, qi_X7, by decide +kernel, by decide +kernel, by decide +kernel⟩, gTB_at 876 rfl rfl, gTB_at 36 rfl rfl⟩
set_option maxRecDepth 20000 in
theorem kX7_firstFill : gCalV yX7_firstFill cX7_firstFill 7 (some .long) 2 := ⟨⟨gTB_at 881 rfl rfl, qi_X7, by decide +kernel, by decide +kernel, by decide +kernel⟩, gTB_at 880 rfl rfl, gTB_at 37 rfl rfl⟩
set_option maxRecDepth 20000 in
theorem kX7_leadsOn : gCalV yX7_leadsOn cX7_leadsOn 6 (some .boolean) 4 := ⟨⟨gTB_at 885 rfl rfl, qi_X7, by decide +kernel, by decide +kernel, by decide +kernel⟩, gTB_at 884 rfl rfl, gTB_at 38 rfl rfl⟩
set_option maxRecDepth 20000 in
theorem kX7_kind : gCalV yX7_kind cX7_kind 4 (some .int) 2 := ⟨⟨gTB_at 889 rfl rfl, qi_X7, by decide +kernel, by decide +kernel, by decide +kernel⟩, gTB_at 887 rfl rfl, gTB_at 888 rfl rfl⟩
set_option maxRecDepth 20000 in
theorem kX7_isBall : gCalS yX7_isBall cX7_isBall 1 (some .boolean) 1 := ⟨⟨gTB_at 892 rfl rfl, qi_X7, by decide +kernel, by decide +kernel, by decide +kernel⟩, gTB_at 891 rfl rfl⟩
set_option maxRecDepth 20000 in
theorem kX7_broken : gCalV yX7_broken cX7_broken 3 (some .int) 0 := ⟨⟨gTB_at 896 rfl rfl, qi_X7, by decide +kernel, by decide +kernel, by decide +kernel⟩, gTB_at 894 rfl rfl, gTB_at 895 rfl rfl⟩
set_option maxRecDepth 20000 in
theorem kX7_mayGoTo : gCalV yX7_mayGoTo cX7_mayGoTo 2 (some .int) 1 := ⟨⟨gTB_at 900 rfl rfl, qi_X7, by decide +kernel, by decide +kernel, by decide +kernel⟩, gTB_at 899 rfl rfl, gTB_at 39 rfl rfl⟩
set_option maxRecDepth 20000 in
theorem kX7_drop : gCalV yX7_drop cX7_drop 3 (some .int) 1 := ⟨⟨gTB_at 904 rfl rfl, qi_X7, by decide +kernel, by decide +kernel, by decide +kernel⟩, gTB_at 902 rfl rfl, gTB_at 903 rfl rfl⟩
set_option maxRecDepth 20000 in
theorem kX7_empty : gCalV yX7_empty cX7_empty 4 (some .int) 1 := ⟨⟨gTB_at 908 rfl rfl, qi_X7, by decide +kernel, by decide +kernel, by decide +kernel⟩, gTB_at 906 rfl rfl, gTB_at 907 rfl rfl⟩
set_option maxRecDepth 20000 in
theorem kX7_sheet : gCalV yX7_sheet cX7_sheet 5 (some .int) 3 := ⟨⟨gTB_at 912 rfl rfl, qi_X7, by decide +kernel, by decide +kernel, by decide +kernel⟩, gTB_at 910 rfl rfl, gTB_at 911 rfl rfl⟩
set_option maxRecDepth 20000 in
theorem kX7_lose : gCalV yX7_lose cX7_lose 3 (some .int) 1 := ⟨⟨gTB_at 916 rfl rfl, qi_X7, by decide +kernel, by decide +kernel, by decide +kernel⟩, gTB_at 914 rfl rfl, gTB_at 915 rfl rfl⟩
set_option maxRecDepth 20000 in
theorem kX7_put : gCalV yX7_put cX7_put 4 (some .int) 3 := ⟨⟨gTB_at 920 rfl rfl, qi_X7, by decide +kernel, by decide +kernel, by decide +kernel⟩, gTB_at 918 rfl rfl, gTB_at 919 rfl rfl⟩
set_option maxRecDepth 20000 in
theorem kX7_cell : gCalV yX7_cell cX7_cell 4 (some .long) 3 := ⟨⟨gTB_at 924 rfl rfl, qi_X7, by decide +kernel, by decide +kernel, by decide +kernel⟩, gTB_at 922 rfl rfl, gTB_at 923 rfl rfl⟩
set_option maxRecDepth 20000 in
theorem kX7_copy : gCalV yX7_copy cX7_copy 10 (some .int) 5 := ⟨⟨gTB_at 928 rfl rfl, qi_X7, by decide +kernel, by decide +kernel, by decide +kernel⟩, gTB_at 926 rfl rfl, gTB_at 927 rfl rfl⟩
set_option maxRecDepth 20000 in
theorem kX7_tell : gCalV yX7_tell cX7_tell 2 (some .int) 1 := ⟨⟨gTB_at 932 rfl rfl, qi_X7, by decide +kernel, by decide +kernel, by decide +kernel⟩, gTB_at 930 rfl rfl, gTB_at 931 rfl rfl⟩
set_option maxRecDepth 20000 in
theorem kX7_begins : gCalV yX7_begins cX7_begins 2 none 1 := ⟨⟨gTB_at 936 rfl rfl, qi_X7, by decide +kernel, by decide +kernel, by decide +kernel⟩, gTB_at 935 rfl rfl, gTB_at 40 rfl rfl⟩
set_option maxRecDepth 20000 in
theorem kX7_call : gCalV yX7_call cX7_call 2 (some .int) 1 := ⟨⟨gTB_at 940 rfl rfl, qi_X7, by decide +kernel, by decide +kernel, by decide +kernel⟩, gTB_at 938 rfl rfl, gTB_at 939 rfl rfl⟩
set_option maxRecDepth 20000 in
theorem kX7_as : gCalV yX7_as cX7_as 3 (some .int) 2 := ⟨⟨gTB_at 944 rfl rfl, qi_X7, by decide +kernel, by decide +kernel, by decide +kernel⟩, gTB_at 942 rfl rfl, gTB_at 943 rfl rfl⟩
set_option maxRecDepth 20000 in
theorem kX7_trace : gCalV yX7_trace cX7_trace 1 (some .int) 0 := ⟨⟨gTB_at 948 rfl rfl, qi_X7, by decide +kernel, by decide +kernel, by decide +kernel⟩, gTB_at 946 rfl rfl, gTB_at 947 rfl rfl⟩
set_option maxRecDepth 20000 in
theorem kX7_fault : gCalV yX7_fault cX7_fault 1 (some .int) 0 := ⟨⟨gTB_at 952 rfl rfl, qi_X7, by decide +kernel, by decide +kernel, by decide +kernel⟩, gTB_at 950 rfl rfl, gTB_at 951 rfl rfl⟩
set_option maxRecDepth 20000 in
theorem kX7_many : gCalV yX7_many cX7_many 4 (some .int) 1 := ⟨⟨gTB_at 956 rfl rfl, qi_X7, by decide +kernel, by decide +kernel, by decide +kernel⟩, gTB_at 954 rfl rfl, gTB_at 955 rfl rfl⟩
section GF
variable {p : Program} {l : Launch} {e : Env} {R : Room} {s : State} {m : MethodId} {args : Array Value} {below : List Frame} {meth : Method} {c : Code} {H : Heap} {locs : List Loc} {cells slots : Nat} {Q : State → Prop}
variable {cc : ByteArray} {pc nL : Nat} {ls : Array Slot} {rest st : List Value} {E : gE} {μ ν : gM} {τ : gJ}
theorem ge_X0 : gen E μ ν τ 25 = .inr (0, [.ref (gL E 26), .ref (gL E 27), .ref (gL E 28)]) := by simp [gen, gen0]
theorem ge_X1 : gen E μ ν τ 18 = .inr (1, [.ref (gL E 19), .int (μ 18 1)]) := by simp [gen, gen0]
theorem ge_X2 : gen E μ ν τ 20 = .inr (2, [.ref (gL E 21), .int (μ 20 1)]) := by simp [gen, gen0]
theorem ge_X5 : gen E μ ν τ 22 = .inr (5, [.ref (gL E 23), .ref (gL E 24), .int (μ 22 2)]) := by simp [gen, gen0]
theorem ge_X6 : gen E μ ν τ 31 = .inr (6, [.ref (gL E 0), .ref (gL E 1), .ref (gL E 29), .ref (gL E 30), .ref (gL E 18), .ref (gL E 20), .ref (gL E 22), .ref (gL E 25), .int (μ 31 8), .int (μ 31 9), .int (μ 31 10)]) := by simp [gen, gen0]
theorem ge_X7 : gen E μ ν τ 32 = .inr (7, [.int (ν 32 0), .int (ν 32 1), .ref (gL E 33), .ref (gL E 34), .ref (gL E 35), .int (ν 32 5), .ref (gL E 36), .int (ν 32 7), .ref (gL E 37), .int (ν 32 9), .ref (gL E 38), .ref (gL E 39), .ref (gL E 40), .ref (gL E 41), .ref (gL E 42), .int (ν 32 15), .int (ν 32 16), .ref (gL E 43), .ref (gL E 44), .ref (gL E 45)]) := by simp [gen, gen0]
theorem gg_X3_9 (C0 : CallFix p m c cc nL s args gTB RX3) (hK : gK E s) (hP : va_P (gD E) vwCl (wl E μ ν τ) H) {r : Nat} (hr : r < 5) (hdg : decode cc pc = .ok (.getfield 9, 3)) (kk : W p l e R s m args below meth c H locs cells slots Q (F0 m (pc + 3) ls (.ref (gL E (5 + r)) :: rest))) : W p l e R s m args below meth c H locs cells slots Q (F0 m pc ls (.ref (gL E r) :: rest)) := g_get C0 hK hP (by omega) (gen_row hr) rfl inX3 0 (by decide) qf_X3_9 rfl hdg kk
theorem gg_X3_15 (C0 : CallFix p m c cc nL s args gTB RX3) (hK : gK E s) (hP : va_P (gD E) vwCl (wl E μ ν τ) H) {r : Nat} (hr : r < 5) (hdg : decode cc pc = .ok (.getfield 15, 3)) (kk : W p l e R s m args below meth c H locs cells slots Q (F0 m (pc + 3) ls (.int (μ r 1) :: rest))) : W p l e R s m args below meth c H locs cells slots Q (F0 m pc ls (.ref (gL E r) :: rest)) := g_get C0 hK hP (by omega) (gen_row hr) rfl inX3 1 (by decide) qf_X3_15 rfl hdg kk
theorem gp_X3_15 {v : Int32} (hE : gLok E) (C0 : CallFix p m c cc nL s args gTB RX3) (hK : gK E s) (hP : va_P (gD E) vwCl (wl E μ ν τ) H) (hS : va_S (gA E) s.heap H locs) {r : Nat} (hr : r < 5) (hdg : decode cc pc = .ok (.putfield 15, 3)) (kk : ∀ (H : Heap) (locs : List Loc), va_P (gD E) vwCl (wl E (up2 μ r 1 v) ν τ) H → va_S (gA E) s.heap H locs → W p l e R s m args below meth c H locs cells slots Q (F0 m (pc + 3) ls rest)) : W p l e R s m args below meth c H locs cells slots Q (F0 m pc ls (.int v :: .ref (gL E r) :: rest)) := g_putX (fs := fun f => [.ref (gL E (5 + r)), .int (f 1)]) hE C0 hK hP hS (by omega) (fun _ => (gen_row hr)) rfl inX3 tyX3_ok nmX3 1 (by decide) qf_X3_15 rfl (by decide +kernel) (Nat.le_of_ble_eq_true rfl) rfl hdg kk
theorem gg_X1_9 (C0 : CallFix p m c cc nL s args gTB RX1) (hK : gK E s) (hP : va_P (gD E) vwCl (wl E μ ν τ) H) (hdg : decode cc pc = .ok (.getfield 9, 3)) (kk : W p l e R s m args below meth c H locs cells slots Q (F0 m (pc + 3) ls (.ref (gL E 19) :: rest))) : W p l e R s m args below meth c H locs cells slots Q (F0 m pc ls (.ref (gL E 18) :: rest)) := g_get C0 hK hP (by decide) ge_X1 rfl inX1 0 (by decide) qf_X1_9 rfl hdg kk
theorem gg_X1_21 (C0 : CallFix p m c cc nL s args gTB RX1) (hK : gK E s) (hP : va_P (gD E) vwCl (wl E μ ν τ) H) (hdg : decode cc pc = .ok (.getfield 21, 3)) (kk : W p l e R s m args below meth c H locs cells slots Q (F0 m (pc + 3) ls (.int (μ 18 1) :: rest))) : W p l e R s m args below meth c H locs cells slots Q (F0 m pc ls (.ref (gL E 18) :: rest)) := g_get C0 hK hP (by decide) ge_X1 rfl inX1 1 (by decide) qf_X1_21 rfl hdg kk
theorem gp_X1_21 {v : Int32} (hE : gLok E) (C0 : CallFix p m c cc nL s args gTB RX1) (hK : gK E s) (hP : va_P (gD E) vwCl (wl E μ ν τ) H) (hS : va_S (gA E) s.heap H locs) (hdg : decode cc pc = .ok (.putfield 21, 3)) (kk : ∀ (H : Heap) (locs : List Loc), va_P (gD E) vwCl (wl E (up2 μ 18 1 v) ν τ) H → va_S (gA E) s.heap H locs → W p l e R s m args below meth c H locs cells slots Q (F0 m (pc + 3) ls rest)) : W p l e R s m args below meth c H locs cells slots Q (F0 m pc ls (.int v :: .ref (gL E 18) :: rest)) := g_putX (fs := fun f => [.ref (gL E 19), .int (f 1)]) hE C0 hK hP hS (by decide) (fun _ => ge_X1) rfl inX1 tyX1_ok nmX1 1 (by decide) qf_X1_21 rfl (by decide +kernel) (Nat.le_of_ble_eq_true rfl) rfl hdg kk
theorem gg_X2_9 (C0 : CallFix p m c cc nL s args gTB RX2) (hK : gK E s) (hP : va_P (gD E) vwCl (wl E μ ν τ) H) (hdg : decode cc pc = .ok (.getfield 9, 3)) (kk : W p l e R s m args below meth c H locs cells slots Q (F0 m (pc + 3) ls (.ref (gL E 21) :: rest))) : W p l e R s m args below meth c H locs cells slots Q (F0 m pc ls (.ref (gL E 20) :: rest)) := g_get C0 hK hP (by decide) ge_X2 rfl inX2 0 (by decide) qf_X2_9 rfl hdg kk
theorem gg_X2_45 (C0 : CallFix p m c cc nL s args gTB RX2) (hK : gK E s) (hP : va_P (gD E) vwCl (wl E μ ν τ) H) (hdg : decode cc pc = .ok (.getfield 45, 3)) (kk : W p l e R s m args below meth c H locs cells slots Q (F0 m (pc + 3) ls (.int (μ 20 1) :: rest))) : W p l e R s m args below meth c H locs cells slots Q (F0 m pc ls (.ref (gL E 20) :: rest)) := g_get C0 hK hP (by decide) ge_X2 rfl inX2 1 (by decide) qf_X2_45 rfl hdg kk
theorem gp_X2_45 {v : Int32} (hE : gLok E) (C0 : CallFix p m c cc nL s args gTB RX2) (hK : gK E s) (hP : va_P (gD E) vwCl (wl E μ ν τ) H) (hS : va_S (gA E) s.heap H locs) (hdg : decode cc pc = .ok (.putfield 45, 3)) (kk : ∀ (H : Heap) (locs : List Loc), va_P (gD E) vwCl (wl E (up2 μ 20 1 v) ν τ) H → va_S (gA E) s.heap H locs → W p l e R s m args below meth c H locs cells slots Q (F0 m (pc + 3) ls rest)) : W p l e R s m args below meth c H locs cells slots Q (F0 m pc ls (.int v :: .ref (gL E 20) :: rest)) := g_putX (fs := fun f => [.ref (gL E 21), .int (f 1)]) hE C0 hK hP hS (by decide) (fun _ => ge_X2) rfl inX2 tyX2_ok nmX2 1 (by decide) qf_X2_45 rfl (by decide +kernel) (Nat.le_of_ble_eq_true rfl) rfl hdg kk
theorem gg_X5_9 (C0 : CallFix p m c cc nL s args gTB RX5) (hK : gK E s) (hP : va_P (gD E) vwCl (wl E μ ν τ) H) (hdg : decode cc pc = .ok (.getfield 9, 3)) (kk : W p l e R s m args below meth c H locs cells slots Q (F0 m (pc + 3) ls (.ref (gL E 23) :: rest))) : W p l e R s m args below meth c H locs cells slots Q (F0 m pc ls (.ref (gL E 22) :: rest)) := g_get C0 hK hP (by decide) ge_X5 rfl inX5 0 (by decide) qf_X5_9 rfl hdg kk
theorem gg_X5_15 (C0 : CallFix p m c cc nL s args gTB RX5) (hK : gK E s) (hP : va_P (gD E) vwCl (wl E μ ν τ) H) (hdg : decode cc pc = .ok (.getfield 15, 3)) (kk : W p l e R s m args below meth c H locs cells slots Q (F0 m (pc + 3) ls (.ref (gL E 24) :: rest))) : W p l e R s m args below meth c H locs cells slots Q (F0 m pc ls (.ref (gL E 22) :: rest)) := g_get C0 hK hP (by decide) ge_X5 rfl inX5 1 (by decide) qf_X5_15 rfl hdg kk
theorem gg_X5_24 (C0 : CallFix p m c cc nL s args gTB RX5) (hK : gK E s) (hP : va_P (gD E) vwCl (wl E μ ν τ) H) (hdg : decode cc pc = .ok (.getfield 24, 3)) (kk : W p l e R s m args below meth c H locs cells slots Q (F0 m (pc + 3) ls (.int (μ 22 2) :: rest))) : W p l e R s m args below meth c H locs cells slots Q (F0 m pc ls (.ref (gL E 22) :: rest)) := g_get C0 hK hP (by decide) ge_X5 rfl inX5 2 (by decide) qf_X5_24 rfl hdg kk
theorem gp_X5_24 {v : Int32} (hE : gLok E) (C0 : CallFix p m c cc nL s args gTB RX5) (hK : gK E s) (hP : va_P (gD E) vwCl (wl E μ ν τ) H) (hS : va_S (gA E) s.heap H locs) (hdg : decode cc pc = .ok (.putfield 24, 3)) (kk : ∀ (H : Heap) (locs : List Loc), va_P (gD E) vwCl (wl E (up2 μ 22 2 v) ν τ) H → va_S (gA E) s.heap H locs → W p l e R s m args below meth c H locs cells slots Q (F0 m (pc + 3) ls rest)) : W p l e R s m args below meth c H locs cells slots Q (F0 m pc ls (.int v :: .ref (gL E 22) :: rest)) := g_putX (fs := fun f => [.ref (gL E 23), .ref (gL E 24), .int (f 2)]) hE C0 hK hP hS (by decide) (fun _ => ge_X5) rfl inX5 tyX5_ok nmX5 2 (by decide) qf_X5_24 rfl (by decide +kernel) (Nat.le_of_ble_eq_true rfl) rfl hdg kk
theorem gg_X0_9 (C0 : CallFix p m c cc nL s args gTB RX0) (hK : gK E s) (hP : va_P (gD E) vwCl (wl E μ ν τ) H) (hdg : decode cc pc = .ok (.getfield 9, 3)) (kk : W p l e R s m args below meth c H locs cells slots Q (F0 m (pc + 3) ls (.ref (gL E 26) :: rest))) : W p l e R s m args below meth c H locs cells slots Q (F0 m pc ls (.ref (gL E 25) :: rest)) := g_get C0 hK hP (by decide) ge_X0 rfl inX0 0 (by decide) qf_X0_9 rfl hdg kk
theorem gg_X0_15 (C0 : CallFix p m c cc nL s args gTB RX0) (hK : gK E s) (hP : va_P (gD E) vwCl (wl E μ ν τ) H) (hdg : decode cc pc = .ok (.getfield 15, 3)) (kk : W p l e R s m args below meth c H locs cells slots Q (F0 m (pc + 3) ls (.ref (gL E 27) :: rest))) : W p l e R s m args below meth c H locs cells slots Q (F0 m pc ls (.ref (gL E 25) :: rest)) := g_get C0 hK hP (by decide) ge_X0 rfl inX0 1 (by decide) qf_X0_15 rfl hdg kk
theorem gg_X0_18 (C0 : CallFix p m c cc nL s args gTB RX0) (hK : gK E s) (hP : va_P (gD E) vwCl (wl E μ ν τ) H) (hdg : decode cc pc = .ok (.getfield 18, 3)) (kk : W p l e R s m args below meth c H locs cells slots Q (F0 m (pc + 3) ls (.ref (gL E 28) :: rest))) : W p l e R s m args below meth c H locs cells slots Q (F0 m pc ls (.ref (gL E 25) :: rest)) := g_get C0 hK hP (by decide) ge_X0 rfl inX0 2 (by decide) qf_X0_18 rfl hdg kk
theorem gg_X4_9 (C0 : CallFix p m c cc nL s args gTB RX4) (hK : gK E s) (hP : va_P (gD E) vwCl (wl E μ ν τ) H) {r : Nat} (hr : r < 4) (hdg : decode cc pc = .ok (.getfield 9, 3)) (kk : W p l e R s m args below meth c H locs cells slots Q (F0 m (pc + 3) ls (.ref (gL E (14 + r)) :: rest))) : W p l e R s m args below meth c H locs cells slots Q (F0 m pc ls (.ref (gL E (10 + r)) :: rest)) := g_get C0 hK hP (by omega) (gen_sheet hr) rfl inX4 0 (by decide) qf_X4_9 rfl hdg kk
theorem gg_X4_15 (C0 : CallFix p m c cc nL s args gTB RX4) (hK : gK E s) (hP : va_P (gD E) vwCl (wl E μ ν τ) H) {r : Nat} (hr : r < 4) (hdg : decode cc pc = .ok (.getfield 15, 3)) (kk : W p l e R s m args below meth c H locs cells slots Q (F0 m (pc + 3) ls (.int (μ (10 + r) 1) :: rest))) : W p l e R s m args below meth c H locs cells slots Q (F0 m pc ls (.ref (gL E (10 + r)) :: rest)) := g_get C0 hK hP (by omega) (gen_sheet hr) rfl inX4 1 (by decide) qf_X4_15 rfl hdg kk
theorem gp_X4_15 {v : Int32} (hE : gLok E) (C0 : CallFix p m c cc nL s args gTB RX4) (hK : gK E s) (hP : va_P (gD E) vwCl (wl E μ ν τ) H) (hS : va_S (gA E) s.heap H locs) {r : Nat} (hr : r < 4) (hdg : decode cc pc = .ok (.putfield 15, 3)) (kk : ∀ (H : Heap) (locs : List Loc), va_P (gD E) vwCl (wl E (up2 μ (10 + r) 1 v) ν τ) H → va_S (gA E) s.heap H locs → W p l e R s m args below meth c H locs cells slots Q (F0 m (pc + 3) ls rest)) : W p l e R s m args below meth c H locs cells slots Q (F0 m pc ls (.int v :: .ref (gL E (10 + r)) :: rest)) := g_putX (fs := fun f => [.ref (gL E (14 + r)), .int (f 1), .int (f 2)]) hE C0 hK hP hS (by omega) (fun _ => (gen_sheet hr)) rfl inX4 tyX4_ok nmX4 1 (by decide) qf_X4_15 rfl (by decide +kernel) (Nat.le_of_ble_eq_true rfl) rfl hdg kk
theorem gg_X4_25 (C0 : CallFix p m c cc nL s args gTB RX4) (hK : gK E s) (hP : va_P (gD E) vwCl (wl E μ ν τ) H) {r : Nat} (hr : r < 4) (hdg : decode cc pc = .ok (.getfield 25, 3)) (kk : W p l e R s m args below meth c H locs cells slots Q (F0 m (pc + 3) ls (.int (μ (10 + r) 2) :: rest))) : W p l e R s m args below meth c H locs cells slots Q (F0 m pc ls (.ref (gL E (10 + r)) :: rest)) := g_get C0 hK hP (by omega) (gen_sheet hr) rfl inX4 2 (by decide) qf_X4_25 rfl hdg kk
theorem gp_X4_25 {v : Int32} (hE : gLok E) (C0 : CallFix p m c cc nL s args gTB RX4) (hK : gK E s) (hP : va_P (gD E) vwCl (wl E μ ν τ) H) (hS : va_S (gA E) s.heap H locs) {r : Nat} (hr : r < 4) (hdg : decode cc pc = .ok (.putfield 25, 3)) (kk : ∀ (H : Heap) (locs : List Loc), va_P (gD E) vwCl (wl E (up2 μ (10 + r) 2 v) ν τ) H → va_S (gA E) s.heap H locs → W p l e R s m args below meth c H locs cells slots Q (F0 m (pc + 3) ls rest)) : W p l e R s m args below meth c H locs cells slots Q (F0 m pc ls (.int v :: .ref (gL E (10 + r)) :: rest)) := g_putX (fs := fun f => [.ref (gL E (14 + r)), .int (f 1), .int (f 2)]) hE C0 hK hP hS (by omega) (fun _ => (gen_sheet hr)) rfl inX4 tyX4_ok nmX4 2 (by decide) qf_X4_25 rfl (by decide +kernel) (Nat.le_of_ble_eq_true rfl) rfl hdg kk
theorem gg_X6_12 (C0 : CallFix p m c cc nL s args gTB RX6) (hK : gK E s) (hP : va_P (gD E) vwCl (wl E μ ν τ) H) (hdg : decode cc pc = .ok (.getfield 12, 3)) (kk : W p l e R s m args below meth c H locs cells slots Q (F0 m (pc + 3) ls (.ref (gL E 0) :: rest))) : W p l e R s m args below meth c H locs cells slots Q (F0 m pc ls (.ref (gL E 31) :: rest)) := g_get C0 hK hP (by decide) ge_X6 rfl inX6 0 (by decide) qf_X6_12 rfl hdg kk
theorem gg_X6_18 (C0 : CallFix p m c cc nL s args gTB RX6) (hK : gK E s) (hP : va_P (gD E) vwCl (wl E μ ν τ) H) (hdg : decode cc pc = .ok (.getfield 18, 3)) (kk : W p l e R s m args below meth c H locs cells slots Q (F0 m (pc + 3) ls (.ref (gL E 1) :: rest))) : W p l e R s m args below meth c H locs cells slots Q (F0 m pc ls (.ref (gL E 31) :: rest)) := g_get C0 hK hP (by decide) ge_X6 rfl inX6 1 (by decide) qf_X6_18 rfl hdg kk
theorem gg_X6_21 (C0 : CallFix p m c cc nL s args gTB RX6) (hK : gK E s) (hP : va_P (gD E) vwCl (wl E μ ν τ) H) (hdg : decode cc pc = .ok (.getfield 21, 3)) (kk : W p l e R s m args below meth c H locs cells slots Q (F0 m (pc + 3) ls (.ref (gL E 29) :: rest))) : W p l e R s m args below meth c H locs cells slots Q (F0 m pc ls (.ref (gL E 31) :: rest)) := g_get C0 hK hP (by decide) ge_X6 rfl inX6 2 (by decide) qf_X6_21 rfl hdg kk
theorem gg_X6_27 (C0 : CallFix p m c cc nL s args gTB RX6) (hK : gK E s) (hP : va_P (gD E) vwCl (wl E μ ν τ) H) (hdg : decode cc pc = .ok (.getfield 27, 3)) (kk : W p l e R s m args below meth c H locs cells slots Q (F0 m (pc + 3) ls (.ref (gL E 30) :: rest))) : W p l e R s m args below meth c H locs cells slots Q (F0 m pc ls (.ref (gL E 31) :: rest)) := g_get C0 hK hP (by decide) ge_X6 rfl inX6 3 (by decide) qf_X6_27 rfl hdg kk
theorem gg_X6_34 (C0 : CallFix p m c cc nL s args gTB RX6) (hK : gK E s) (hP : va_P (gD E) vwCl (wl E μ ν τ) H) (hdg : decode cc pc = .ok (.getfield 34, 3)) (kk : W p l e R s m args below meth c H locs cells slots Q (F0 m (pc + 3) ls (.ref (gL E 18) :: rest))) : W p l e R s m args below meth c H locs cells slots Q (F0 m pc ls (.ref (gL E 31) :: rest)) := g_get C0 hK hP (by decide) ge_X6 rfl inX6 4 (by decide) qf_X6_34 rfl hdg kk
theorem gg_X6_41 (C0 : CallFix p m c cc nL s args gTB RX6) (hK : gK E s) (hP : va_P (gD E) vwCl (wl E μ ν τ) H) (hdg : decode cc pc = .ok (.getfield 41, 3)) (kk : W p l e R s m args below meth c H locs cells slots Q (F0 m (pc + 3) ls (.ref (gL E 20) :: rest))) : W p l e R s m args below meth c H locs cells slots Q (F0 m pc ls (.ref (gL E 31) :: rest)) := g_get C0 hK hP (by decide) ge_X6 rfl inX6 5 (by decide) qf_X6_41 rfl hdg kk
theorem gg_X6_48 (C0 : CallFix p m c cc nL s args gTB RX6) (hK : gK E s) (hP : va_P (gD E) vwCl (wl E μ ν τ) H) (hdg : decode cc pc = .ok (.getfield 48, 3)) (kk : W p l e R s m args below meth c H locs cells slots Q (F0 m (pc + 3) ls (.ref (gL E 22) :: rest))) : W p l e R s m args below meth c H locs cells slots Q (F0 m pc ls (.ref (gL E 31) :: rest)) := g_get C0 hK hP (by decide) ge_X6 rfl inX6 6 (by decide) qf_X6_48 rfl hdg kk
theorem gg_X6_55 (C0 : CallFix p m c cc nL s args gTB RX6) (hK : gK E s) (hP : va_P (gD E) vwCl (wl E μ ν τ) H) (hdg : decode cc pc = .ok (.getfield 55, 3)) (kk : W p l e R s m args below meth c H locs cells slots Q (F0 m (pc + 3) ls (.ref (gL E 25) :: rest))) : W p l e R s m args below meth c H locs cells slots Q (F0 m pc ls (.ref (gL E 31) :: rest)) := g_get C0 hK hP (by decide) ge_X6 rfl inX6 7 (by decide) qf_X6_55 rfl hdg kk
theorem gg_X6_59 (C0 : CallFix p m c cc nL s args gTB RX6) (hK : gK E s) (hP : va_P (gD E) vwCl (wl E μ ν τ) H) (hdg : decode cc pc = .ok (.getfield 59, 3)) (kk : W p l e R s m args below meth c H locs cells slots Q (F0 m (pc + 3) ls (.int (μ 31 8) :: rest))) : W p l e R s m args below meth c H locs cells slots Q (F0 m pc ls (.ref (gL E 31) :: rest)) := g_get C0 hK hP (by decide) ge_X6 rfl inX6 8 (by decide) qf_X6_59 rfl hdg kk
theorem gp_X6_59 {v : Int32} (hE : gLok E) (C0 : CallFix p m c cc nL s args gTB RX6) (hK : gK E s) (hP : va_P (gD E) vwCl (wl E μ ν τ) H) (hS : va_S (gA E) s.heap H locs) (hdg : decode cc pc = .ok (.putfield 59, 3)) (kk : ∀ (H : Heap) (locs : List Loc), va_P (gD E) vwCl (wl E (up2 μ 31 8 v) ν τ) H → va_S (gA E) s.heap H locs → W p l e R s m args below meth c H locs cells slots Q (F0 m (pc + 3) ls rest)) : W p l e R s m args below meth c H locs cells slots Q (F0 m pc ls (.int v :: .ref (gL E 31) :: rest)) := g_putX (fs := fun f => [.ref (gL E 0), .ref (gL E 1), .ref (gL E 29), .ref (gL E 30), .ref (gL E 18), .ref (gL E 20), .ref (gL E 22), .ref (gL E 25), .int (f 8), .int (f 9), .int (f 10)]) hE C0 hK hP hS (by decide) (fun _ => ge_X6) rfl inX6 tyX6_ok nmX6 8 (by decide) qf_X6_59 rfl (by decide +kernel) (Nat.le_of_ble_eq_true rfl) rfl hdg kk
theorem gg_X6_215 (C0 : CallFix p m c cc nL s args gTB RX6) (hK : gK E s) (hP : va_P (gD E) vwCl (wl E μ ν τ) H) (hdg : decode cc pc = .ok (.getfield 215, 3)) (kk : W p l e R s m args below meth c H locs cells slots Q (F0 m (pc + 3) ls (.int (μ 31 9) :: rest))) : W p l e R s m args below meth c H locs cells slots Q (F0 m pc ls (.ref (gL E 31) :: rest)) := g_get C0 hK hP (by decide) ge_X6 rfl inX6 9 (by decide) qf_X6_215 rfl hdg kk
theorem gp_X6_215 {v : Int32} (hE : gLok E) (C0 : CallFix p m c cc nL s args gTB RX6) (hK : gK E s) (hP : va_P (gD E) vwCl (wl E μ ν τ) H) (hS : va_S (gA E) s.heap H locs) (hdg : decode cc pc = .ok (.putfield 215, 3)) (kk : ∀ (H : Heap) (locs : List Loc), va_P (gD E) vwCl (wl E (up2 μ 31 9 v) ν τ) H → va_S (gA E) s.heap H locs → W p l e R s m args below meth c H locs cells slots Q (F0 m (pc + 3) ls rest)) : W p l e R s m args below meth c H locs cells slots Q (F0 m pc ls (.int v :: .ref (gL E 31) :: rest)) := g_putX (fs := fun f => [.ref (gL E 0), .ref (gL E 1), .ref (gL E 29), .ref (gL E 30), .ref (gL E 18), .ref (gL E 20), .ref (gL E 22), .ref (gL E 25), .int (f 8), .int (f 9), .int (f 10)]) hE C0 hK hP hS (by decide) (fun _ => ge_X6) rfl inX6 tyX6_ok nmX6 9 (by decide) qf_X6_215 rfl (by decide +kernel) (Nat.le_of_ble_eq_true rfl) rfl hdg kk
theorem gg_X6_64 (C0 : CallFix p m c cc nL s args gTB RX6) (hK : gK E s) (hP : va_P (gD E) vwCl (wl E μ ν τ) H) (hdg : decode cc pc = .ok (.getfield 64, 3)) (kk : W p l e R s m args below meth c H locs cells slots Q (F0 m (pc + 3) ls (.int (μ 31 10) :: rest))) : W p l e R s m args below meth c H locs cells slots Q (F0 m pc ls (.ref (gL E 31) :: rest)) := g_get C0 hK hP (by decide) ge_X6 rfl inX6 10 (by decide) qf_X6_64 rfl hdg kk
theorem gp_X6_64 {v : Int32} (hE : gLok E) (C0 : CallFix p m c cc nL s args gTB RX6) (hK : gK E s) (hP : va_P (gD E) vwCl (wl E μ ν τ) H) (hS : va_S (gA E) s.heap H locs) (hdg : decode cc pc = .ok (.putfield 64, 3)) (kk : ∀ (H : Heap) (locs : List Loc), va_P (gD E) vwCl (wl E (up2 μ 31 10 v) ν τ) H → va_S (gA E) s.heap H locs → W p l e R s m args below meth c H locs cells slots Q (F0 m (pc + 3) ls rest)) : W p l e R s m args below meth c H locs cells slots Q (F0 m pc ls (.int v :: .ref (gL E 31) :: rest)) := g_putX (fs := fun f => [.ref (gL E 0), .ref (gL E 1), .ref (gL E 29), .ref (gL E 30), .ref (gL E 18), .ref (gL E 20), .ref (gL E 22), .ref (gL E 25), .int (f 8), .int (f 9), .int (f 10)]) hE C0 hK hP hS (by decide) (fun _ => ge_X6) rfl inX6 tyX6_ok nmX6 10 (by decide) qf_X6_64 rfl (by decide +kernel) (Nat.le_of_ble_eq_true rfl) rfl hdg kk
theorem gg_X7_50 (C0 : CallFix p m c cc nL s args gTB RX7) (hK : gK E s) (hP : va_P (gD E) vwCl (wl E μ ν τ) H) (hdg : decode cc pc = .ok (.getfield 50, 3)) (kk : W p l e R s m args below meth c H locs cells slots Q (F0 m (pc + 3) ls (.int (ν 32 0) :: rest))) : W p l e R s m args below meth c H locs cells slots Q (F0 m pc ls (.ref (gL E 32) :: rest)) := g_get C0 hK hP (by decide) ge_X7 rfl inX7 0 (by decide) qf_X7_50 rfl hdg kk
theorem gp_X7_50 {v : Int32} (hE : gLok E) (C0 : CallFix p m c cc nL s args gTB RX7) (hK : gK E s) (hP : va_P (gD E) vwCl (wl E μ ν τ) H) (hS : va_S (gA E) s.heap H locs) (hdg : decode cc pc = .ok (.putfield 50, 3)) (kk : ∀ (H : Heap) (locs : List Loc), va_P (gD E) vwCl (wl E μ (up2 ν 32 0 v) τ) H → va_S (gA E) s.heap H locs → W p l e R s m args below meth c H locs cells slots Q (F0 m (pc + 3) ls rest)) : W p l e R s m args below meth c H locs cells slots Q (F0 m pc ls (.int v :: .ref (gL E 32) :: rest)) := g_putM (fs := fun f => [.int (f 0), .int (f 1), .ref (gL E 33), .ref (gL E 34), .ref (gL E 35), .int (f 5), .ref (gL E 36), .int (f 7), .ref (gL E 37), .int (f 9), .ref (gL E 38), .ref (gL E 39), .ref (gL E 40), .ref (gL E 41), .ref (gL E 42), .int (f 15), .int (f 16), .ref (gL E 43), .ref (gL E 44), .ref (gL E 45)]) hE C0 hK hP hS (by decide) (fun _ => ge_X7) rfl inX7 tyX7_ok nmX7 0 (by decide) qf_X7_50 rfl (by decide +kernel) (Nat.le_of_ble_eq_true rfl) rfl hdg kk
theorem gg_X7_186 (C0 : CallFix p m c cc nL s args gTB RX7) (hK : gK E s) (hP : va_P (gD E) vwCl (wl E μ ν τ) H) (hdg : decode cc pc = .ok (.getfield 186, 3)) (kk : W p l e R s m args below meth c H locs cells slots Q (F0 m (pc + 3) ls (.int (ν 32 1) :: rest))) : W p l e R s m args below meth c H locs cells slots Q (F0 m pc ls (.ref (gL E 32) :: rest)) := g_get C0 hK hP (by decide) ge_X7 rfl inX7 1 (by decide) qf_X7_186 rfl hdg kk
theorem gp_X7_186 {v : Int32} (hE : gLok E) (C0 : CallFix p m c cc nL s args gTB RX7) (hK : gK E s) (hP : va_P (gD E) vwCl (wl E μ ν τ) H) (hS : va_S (gA E) s.heap H locs) (hdg : decode cc pc = .ok (.putfield 186, 3)) (kk : ∀ (H : Heap) (locs : List Loc), va_P (gD E) vwCl (wl E μ (up2 ν 32 1 v) τ) H → va_S (gA E) s.heap H locs → W p l e R s m args below meth c H locs cells slots Q (F0 m (pc + 3) ls rest)) : W p l e R s m args below meth c H locs cells slots Q (F0 m pc ls (.int v :: .ref (gL E 32) :: rest)) := g_putM (fs := fun f => [.int (f 0), .int (f 1), .ref (gL E 33), .ref (gL E 34), .ref (gL E 35), .int (f 5), .ref (gL E 36), .int (f 7), .ref (gL E 37), .int (f 9), .ref (gL E 38), .ref (gL E 39), .ref (gL E 40), .ref (gL E 41), .ref (gL E 42), .int (f 15), .int (f 16), .ref (gL E 43), .ref (gL E 44), .ref (gL E 45)]) hE C0 hK hP hS (by decide) (fun _ => ge_X7) rfl inX7 tyX7_ok nmX7 1 (by decide) qf_X7_186 rfl (by decide +kernel) (Nat.le_of_ble_eq_true rfl) rfl hdg kk
theorem gg_X7_9 (C0 : CallFix p m c cc nL s args gTB RX7) (hK : gK E s) (hP : va_P (gD E) vwCl (wl E μ ν τ) H) (hdg : decode cc pc = .ok (.getfield 9, 3)) (kk : W p l e R s m args below meth c H locs cells slots Q (F0 m (pc + 3) ls (.ref (gL E 33) :: rest))) : W p l e R s m args below meth c H locs cells slots Q (F0 m pc ls (.ref (gL E 32) :: rest)) := g_get C0 hK hP (by decide) ge_X7 rfl inX7 2 (by decide) qf_X7_9 rfl hdg kk
theorem gg_X7_13 (C0 : CallFix p m c cc nL s args gTB RX7) (hK : gK E s) (hP : va_P (gD E) vwCl (wl E μ ν τ) H) (hdg : decode cc pc = .ok (.getfield 13, 3)) (kk : W p l e R s m args below meth c H locs cells slots Q (F0 m (pc + 3) ls (.ref (gL E 34) :: rest))) : W p l e R s m args below meth c H locs cells slots Q (F0 m pc ls (.ref (gL E 32) :: rest)) := g_get C0 hK hP (by decide) ge_X7 rfl inX7 3 (by decide) qf_X7_13 rfl hdg kk
theorem gg_X7_16 (C0 : CallFix p m c cc nL s args gTB RX7) (hK : gK E s) (hP : va_P (gD E) vwCl (wl E μ ν τ) H) (hdg : decode cc pc = .ok (.getfield 16, 3)) (kk : W p l e R s m args below meth c H locs cells slots Q (F0 m (pc + 3) ls (.ref (gL E 35) :: rest))) : W p l e R s m args below meth c H locs cells slots Q (F0 m pc ls (.ref (gL E 32) :: rest)) := g_get C0 hK hP (by decide) ge_X7 rfl inX7 4 (by decide) qf_X7_16 rfl hdg kk
theorem gg_X7_60 (C0 : CallFix p m c cc nL s args gTB RX7) (hK : gK E s) (hP : va_P (gD E) vwCl (wl E μ ν τ) H) (hdg : decode cc pc = .ok (.getfield 60, 3)) (kk : W p l e R s m args below meth c H locs cells slots Q (F0 m (pc + 3) ls (.int (ν 32 5) :: rest))) : W p l e R s m args below meth c H locs cells slots Q (F0 m pc ls (.ref (gL E 32) :: rest)) := g_get C0 hK hP (by decide) ge_X7 rfl inX7 5 (by decide) qf_X7_60 rfl hdg kk
theorem gp_X7_60 {v : Int32} (hE : gLok E) (C0 : CallFix p m c cc nL s args gTB RX7) (hK : gK E s) (hP : va_P (gD E) vwCl (wl E μ ν τ) H) (hS : va_S (gA E) s.heap H locs) (hdg : decode cc pc = .ok (.putfield 60, 3)) (kk : ∀ (H : Heap) (locs : List Loc), va_P (gD E) vwCl (wl E μ (up2 ν 32 5 v) τ) H → va_S (gA E) s.heap H locs → W p l e R s m args below meth c H locs cells slots Q (F0 m (pc + 3) ls rest)) : W p l e R s m args below meth c H locs cells slots Q (F0 m pc ls (.int v :: .ref (gL E 32) :: rest)) := g_putM (fs := fun f => [.int (f 0), .int (f 1), .ref (gL E 33), .ref (gL E 34), .ref (gL E 35), .int (f 5), .ref (gL E 36), .int (f 7), .ref (gL E 37), .int (f 9), .ref (gL E 38), .ref (gL E 39), .ref (gL E 40), .ref (gL E 41), .ref (gL E 42), .int (f 15), .int (f 16), .ref (gL E 43), .ref (gL E 44), .ref (gL E 45)]) hE C0 hK hP hS (by decide) (fun _ => ge_X7) rfl inX7 tyX7_ok nmX7 5 (by decide) qf_X7_60 rfl (by decide +kernel) (Nat.le_of_ble_eq_true rfl) rfl hdg kk
theorem gg_X7_19 (C0 : CallFix p m c cc nL s args gTB RX7) (hK : gK E s) (hP : va_P (gD E) vwCl (wl E μ ν τ) H) (hdg : decode cc pc = .ok (.getfield 19, 3)) (kk : W p l e R s m args below meth c H locs cells slots Q (F0 m (pc + 3) ls (.ref (gL E 36) :: rest))) : W p l e R s m args below meth c H locs cells slots Q (F0 m pc ls (.ref (gL E 32) :: rest)) := g_get C0 hK hP (by decide) ge_X7 rfl inX7 6 (by decide) qf_X7_19 rfl hdg kk
theorem gg_X7_78 (C0 : CallFix p m c cc nL s args gTB RX7) (hK : gK E s) (hP : va_P (gD E) vwCl (wl E μ ν τ) H) (hdg : decode cc pc = .ok (.getfield 78, 3)) (kk : W p l e R s m args below meth c H locs cells slots Q (F0 m (pc + 3) ls (.int (ν 32 7) :: rest))) : W p l e R s m args below meth c H locs cells slots Q (F0 m pc ls (.ref (gL E 32) :: rest)) := g_get C0 hK hP (by decide) ge_X7 rfl inX7 7 (by decide) qf_X7_78 rfl hdg kk
theorem gp_X7_78 {v : Int32} (hE : gLok E) (C0 : CallFix p m c cc nL s args gTB RX7) (hK : gK E s) (hP : va_P (gD E) vwCl (wl E μ ν τ) H) (hS : va_S (gA E) s.heap H locs) (hdg : decode cc pc = .ok (.putfield 78, 3)) (kk : ∀ (H : Heap) (locs : List Loc), va_P (gD E) vwCl (wl E μ (up2 ν 32 7 v) τ) H → va_S (gA E) s.heap H locs → W p l e R s m args below meth c H locs cells slots Q (F0 m (pc + 3) ls rest)) : W p l e R s m args below meth c H locs cells slots Q (F0 m pc ls (.int v :: .ref (gL E 32) :: rest)) := g_putM (fs := fun f => [.int (f 0), .int (f 1), .ref (gL E 33), .ref (gL E 34), .ref (gL E 35), .int (f 5), .ref (gL E 36), .int (f 7), .ref (gL E 37), .int (f 9), .ref (gL E 38), .ref (gL E 39), .ref (gL E 40), .ref (gL E 41), .ref (gL E 42), .int (f 15), .int (f 16), .ref (gL E 43), .ref (gL E 44), .ref (gL E 45)]) hE C0 hK hP hS (by decide) (fun _ => ge_X7) rfl inX7 tyX7_ok nmX7 7 (by decide) qf_X7_78 rfl (by decide +kernel) (Nat.le_of_ble_eq_true rfl) rfl hdg kk
theorem gg_X7_22 (C0 : CallFix p m c cc nL s args gTB RX7) (hK : gK E s) (hP : va_P (gD E) vwCl (wl E μ ν τ) H) (hdg : decode cc pc = .ok (.getfield 22, 3)) (kk : W p l e R s m args below meth c H locs cells slots Q (F0 m (pc + 3) ls (.ref (gL E 37) :: rest))) : W p l e R s m args below meth c H locs cells slots Q (F0 m pc ls (.ref (gL E 32) :: rest)) := g_get C0 hK hP (by decide) ge_X7 rfl inX7 8 (by decide) qf_X7_22 rfl hdg kk
theorem gg_X7_81 (C0 : CallFix p m c cc nL s args gTB RX7) (hK : gK E s) (hP : va_P (gD E) vwCl (wl E μ ν τ) H) (hdg : decode cc pc = .ok (.getfield 81, 3)) (kk : W p l e R s m args below meth c H locs cells slots Q (F0 m (pc + 3) ls (.int (ν 32 9) :: rest))) : W p l e R s m args below meth c H locs cells slots Q (F0 m pc ls (.ref (gL E 32) :: rest)) := g_get C0 hK hP (by decide) ge_X7 rfl inX7 9 (by decide) qf_X7_81 rfl hdg kk
theorem gp_X7_81 {v : Int32} (hE : gLok E) (C0 : CallFix p m c cc nL s args gTB RX7) (hK : gK E s) (hP : va_P (gD E) vwCl (wl E μ ν τ) H) (hS : va_S (gA E) s.heap H locs) (hdg : decode cc pc = .ok (.putfield 81, 3)) (kk : ∀ (H : Heap) (locs : List Loc), va_P (gD E) vwCl (wl E μ (up2 ν 32 9 v) τ) H → va_S (gA E) s.heap H locs → W p l e R s m args below meth c H locs cells slots Q (F0 m (pc + 3) ls rest)) : W p l e R s m args below meth c H locs cells slots Q (F0 m pc ls (.int v :: .ref (gL E 32) :: rest)) := g_putM (fs := fun f => [.int (f 0), .int (f 1), .ref (gL E 33), .ref (gL E 34), .ref (gL E 35), .int (f 5), .ref (gL E 36), .int (f 7), .ref (gL E 37), .int (f 9), .ref (gL E 38), .ref (gL E 39), .ref (gL E 40), .ref (gL E 41), .ref (gL E 42), .int (f 15), .int (f 16), .ref (gL E 43), .ref (gL E 44), .ref (gL E 45)]) hE C0 hK hP hS (by decide) (fun _ => ge_X7) rfl inX7 tyX7_ok nmX7 9 (by decide) qf_X7_81 rfl (by decide +kernel) (Nat.le_of_ble_eq_true rfl) rfl hdg kk
theorem gg_X7_25 (C0 : CallFix p m c cc nL s args gTB RX7) (hK : gK E s) (hP : va_P (gD E) vwCl (wl E μ ν τ) H) (hdg : decode cc pc = .ok (.getfield 25, 3)) (kk : W p l e R s m args below meth c H locs cells slots Q (F0 m (pc + 3) ls (.ref (gL E 38) :: rest))) : W p l e R s m args below meth c H locs cells slots Q (F0 m pc ls (.ref (gL E 32) :: rest)) := g_get C0 hK hP (by decide) ge_X7 rfl inX7 10 (by decide) qf_X7_25 rfl hdg kk
theorem gg_X7_28 (C0 : CallFix p m c cc nL s args gTB RX7) (hK : gK E s) (hP : va_P (gD E) vwCl (wl E μ ν τ) H) (hdg : decode cc pc = .ok (.getfield 28, 3)) (kk : W p l e R s m args below meth c H locs cells slots Q (F0 m (pc + 3) ls (.ref (gL E 39) :: rest))) : W p l e R s m args below meth c H locs cells slots Q (F0 m pc ls (.ref (gL E 32) :: rest)) := g_get C0 hK hP (by decide) ge_X7 rfl inX7 11 (by decide) qf_X7_28 rfl hdg kk
theorem gg_X7_31 (C0 : CallFix p m c cc nL s args gTB RX7) (hK : gK E s) (hP : va_P (gD E) vwCl (wl E μ ν τ) H) (hdg : decode cc pc = .ok (.getfield 31, 3)) (kk : W p l e R s m args below meth c H locs cells slots Q (F0 m (pc + 3) ls (.ref (gL E 40) :: rest))) : W p l e R s m args below meth c H locs cells slots Q (F0 m pc ls (.ref (gL E 32) :: rest)) := g_get C0 hK hP (by decide) ge_X7 rfl inX7 12 (by decide) qf_X7_31 rfl hdg kk
theorem gg_X7_34 (C0 : CallFix p m c cc nL s args gTB RX7) (hK : gK E s) (hP : va_P (gD E) vwCl (wl E μ ν τ) H) (hdg : decode cc pc = .ok (.getfield 34, 3)) (kk : W p l e R s m args below meth c H locs cells slots Q (F0 m (pc + 3) ls (.ref (gL E 41) :: rest))) : W p l e R s m args below meth c H locs cells slots Q (F0 m pc ls (.ref (gL E 32) :: rest)) := g_get C0 hK hP (by decide) ge_X7 rfl inX7 13 (by decide) qf_X7_34 rfl hdg kk
theorem gg_X7_37 (C0 : CallFix p m c cc nL s args gTB RX7) (hK : gK E s) (hP : va_P (gD E) vwCl (wl E μ ν τ) H) (hdg : decode cc pc = .ok (.getfield 37, 3)) (kk : W p l e R s m args below meth c H locs cells slots Q (F0 m (pc + 3) ls (.ref (gL E 42) :: rest))) : W p l e R s m args below meth c H locs cells slots Q (F0 m pc ls (.ref (gL E 32) :: rest)) := g_get C0 hK hP (by decide) ge_X7 rfl inX7 14 (by decide) qf_X7_37 rfl hdg kk
theorem gg_X7_138 (C0 : CallFix p m c cc nL s args gTB RX7) (hK : gK E s) (hP : va_P (gD E) vwCl (wl E μ ν τ) H) (hdg : decode cc pc = .ok (.getfield 138, 3)) (kk : W p l e R s m args below meth c H locs cells slots Q (F0 m (pc + 3) ls (.int (ν 32 15) :: rest))) : W p l e R s m args below meth c H locs cells slots Q (F0 m pc ls (.ref (gL E 32) :: rest)) := g_get C0 hK hP (by decide) ge_X7 rfl inX7 15 (by decide) qf_X7_138 rfl hdg kk
theorem gp_X7_138 {v : Int32} (hE : gLok E) (C0 : CallFix p m c cc nL s args gTB RX7) (hK : gK E s) (hP : va_P (gD E) vwCl (wl E μ ν τ) H) (hS : va_S (gA E) s.heap H locs) (hdg : decode cc pc = .ok (.putfield 138, 3)) (kk : ∀ (H : Heap) (locs : List Loc), va_P (gD E) vwCl (wl E μ (up2 ν 32 15 v) τ) H → va_S (gA E) s.heap H locs → W p l e R s m args below meth c H locs cells slots Q (F0 m (pc + 3) ls rest)) : W p l e R s m args below meth c H locs cells slots Q (F0 m pc ls (.int v :: .ref (gL E 32) :: rest)) := g_putM (fs := fun f => [.int (f 0), .int (f 1), .ref (gL E 33), .ref (gL E 34), .ref (gL E 35), .int (f 5), .ref (gL E 36), .int (f 7), .ref (gL E 37), .int (f 9), .ref (gL E 38), .ref (gL E 39), .ref (gL E 40), .ref (gL E 41), .ref (gL E 42), .int (f 15), .int (f 16), .ref (gL E 43), .ref (gL E 44), .ref (gL E 45)]) hE C0 hK hP hS (by decide) (fun _ => ge_X7) rfl inX7 tyX7_ok nmX7 15 (by decide) qf_X7_138 rfl (by decide +kernel) (Nat.le_of_ble_eq_true rfl) rfl hdg kk
theorem gg_X7_135 (C0 : CallFix p m c cc nL s args gTB RX7) (hK : gK E s) (hP : va_P (gD E) vwCl (wl E μ ν τ) H) (hdg : decode cc pc = .ok (.getfield 135, 3)) (kk : W p l e R s m args below meth c H locs cells slots Q (F0 m (pc + 3) ls (.int (ν 32 16) :: rest))) : W p l e R s m args below meth c H locs cells slots Q (F0 m pc ls (.ref (gL E 32) :: rest)) := g_get C0 hK hP (by decide) ge_X7 rfl inX7 16 (by decide) qf_X7_135 rfl hdg kk
theorem gp_X7_135 {v : Int32} (hE : gLok E) (C0 : CallFix p m c cc nL s args gTB RX7) (hK : gK E s) (hP : va_P (gD E) vwCl (wl E μ ν τ) H) (hS : va_S (gA E) s.heap H locs) (hdg : decode cc pc = .ok (.putfield 135, 3)) (kk : ∀ (H : Heap) (locs : List Loc), va_P (gD E) vwCl (wl E μ (up2 ν 32 16 v) τ) H → va_S (gA E) s.heap H locs → W p l e R s m args below meth c H locs cells slots Q (F0 m (pc + 3) ls rest)) : W p l e R s m args below meth c H locs cells slots Q (F0 m pc ls (.int v :: .ref (gL E 32) :: rest)) := g_putM (fs := fun f => [.int (f 0), .int (f 1), .ref (gL E 33), .ref (gL E 34), .ref (gL E 35), .int (f 5), .ref (gL E 36), .int (f 7), .ref (gL E 37), .int (f 9), .ref (gL E 38), .ref (gL E 39), .ref (gL E 40), .ref (gL E 41), .ref (gL E 42), .int (f 15), .int (f 16), .ref (gL E 43), .ref (gL E 44), .ref (gL E 45)]) hE C0 hK hP hS (by decide) (fun _ => ge_X7) rfl inX7 tyX7_ok nmX7 16 (by decide) qf_X7_135 rfl (by decide +kernel) (Nat.le_of_ble_eq_true rfl) rfl hdg kk
theorem gg_X7_40 (C0 : CallFix p m c cc nL s args gTB RX7) (hK : gK E s) (hP : va_P (gD E) vwCl (wl E μ ν τ) H) (hdg : decode cc pc = .ok (.getfield 40, 3)) (kk : W p l e R s m args below meth c H locs cells slots Q (F0 m (pc + 3) ls (.ref (gL E 43) :: rest))) : W p l e R s m args below meth c H locs cells slots Q (F0 m pc ls (.ref (gL E 32) :: rest)) := g_get C0 hK hP (by decide) ge_X7 rfl inX7 17 (by decide) qf_X7_40 rfl hdg kk
theorem gg_X7_43 (C0 : CallFix p m c cc nL s args gTB RX7) (hK : gK E s) (hP : va_P (gD E) vwCl (wl E μ ν τ) H) (hdg : decode cc pc = .ok (.getfield 43, 3)) (kk : W p l e R s m args below meth c H locs cells slots Q (F0 m (pc + 3) ls (.ref (gL E 44) :: rest))) : W p l e R s m args below meth c H locs cells slots Q (F0 m pc ls (.ref (gL E 32) :: rest)) := g_get C0 hK hP (by decide) ge_X7 rfl inX7 18 (by decide) qf_X7_43 rfl hdg kk
theorem gg_X7_47 (C0 : CallFix p m c cc nL s args gTB RX7) (hK : gK E s) (hP : va_P (gD E) vwCl (wl E μ ν τ) H) (hdg : decode cc pc = .ok (.getfield 47, 3)) (kk : W p l e R s m args below meth c H locs cells slots Q (F0 m (pc + 3) ls (.ref (gL E 45) :: rest))) : W p l e R s m args below meth c H locs cells slots Q (F0 m pc ls (.ref (gL E 32) :: rest)) := g_get C0 hK hP (by decide) ge_X7 rfl inX7 19 (by decide) qf_X7_47 rfl hdg kk
theorem gg_X6_86 (C0 : CallFix p m c cc nL s args gTB RX6) (hK : gK E s) (hP : va_P (gD E) vwCl (wl E μ ν τ) H) {r : Nat} (hr : r < 5) (hdg : decode cc pc = .ok (.getfield 86, 3)) (kk : W p l e R s m args below meth c H locs cells slots Q (F0 m (pc + 3) ls (.int (μ r 1) :: rest))) : W p l e R s m args below meth c H locs cells slots Q (F0 m pc ls (.ref (gL E r) :: rest)) := g_getN C0 hK hP (by omega) (gen_row hr) rfl inX3 1 (by decide) qf_X6_86 rfl hdg kk
theorem gp_X6_86 {v : Int32} (hE : gLok E) (C0 : CallFix p m c cc nL s args gTB RX6) (hK : gK E s) (hP : va_P (gD E) vwCl (wl E μ ν τ) H) (hS : va_S (gA E) s.heap H locs) {r : Nat} (hr : r < 5) (hdg : decode cc pc = .ok (.putfield 86, 3)) (kk : ∀ (H : Heap) (locs : List Loc), va_P (gD E) vwCl (wl E (up2 μ r 1 v) ν τ) H → va_S (gA E) s.heap H locs → W p l e R s m args below meth c H locs cells slots Q (F0 m (pc + 3) ls rest)) : W p l e R s m args below meth c H locs cells slots Q (F0 m pc ls (.int v :: .ref (gL E r) :: rest)) := g_putXN (fs := fun f => [.ref (gL E (5 + r)), .int (f 1)]) hE C0 hK hP hS (by omega) (fun _ => (gen_row hr)) rfl inX3 tyX3_ok nmX3 1 (by decide) qf_X6_86 rfl (by decide +kernel) (Nat.le_of_ble_eq_true rfl) rfl hdg kk
theorem gg_X6_257 (C0 : CallFix p m c cc nL s args gTB RX6) (hK : gK E s) (hP : va_P (gD E) vwCl (wl E μ ν τ) H) (hdg : decode cc pc = .ok (.getfield 257, 3)) (kk : W p l e R s m args below meth c H locs cells slots Q (F0 m (pc + 3) ls (.int (μ 20 1) :: rest))) : W p l e R s m args below meth c H locs cells slots Q (F0 m pc ls (.ref (gL E 20) :: rest)) := g_getN C0 hK hP (by decide) ge_X2 rfl inX2 1 (by decide) qf_X6_257 rfl hdg kk
theorem gp_X6_257 {v : Int32} (hE : gLok E) (C0 : CallFix p m c cc nL s args gTB RX6) (hK : gK E s) (hP : va_P (gD E) vwCl (wl E μ ν τ) H) (hS : va_S (gA E) s.heap H locs) (hdg : decode cc pc = .ok (.putfield 257, 3)) (kk : ∀ (H : Heap) (locs : List Loc), va_P (gD E) vwCl (wl E (up2 μ 20 1 v) ν τ) H → va_S (gA E) s.heap H locs → W p l e R s m args below meth c H locs cells slots Q (F0 m (pc + 3) ls rest)) : W p l e R s m args below meth c H locs cells slots Q (F0 m pc ls (.int v :: .ref (gL E 20) :: rest)) := g_putXN (fs := fun f => [.ref (gL E 21), .int (f 1)]) hE C0 hK hP hS (by decide) (fun _ => ge_X2) rfl inX2 tyX2_ok nmX2 1 (by decide) qf_X6_257 rfl (by decide +kernel) (Nat.le_of_ble_eq_true rfl) rfl hdg kk
theorem gg_X6_241 (C0 : CallFix p m c cc nL s args gTB RX6) (hK : gK E s) (hP : va_P (gD E) vwCl (wl E μ ν τ) H) {r : Nat} (hr : r < 4) (hdg : decode cc pc = .ok (.getfield 241, 3)) (kk : W p l e R s m args below meth c H locs cells slots Q (F0 m (pc + 3) ls (.ref (gL E (14 + r)) :: rest))) : W p l e R s m args below meth c H locs cells slots Q (F0 m pc ls (.ref (gL E (10 + r)) :: rest)) := g_getN C0 hK hP (by omega) (gen_sheet hr) rfl inX4 0 (by decide) qf_X6_241 rfl hdg kk
theorem gg_X6_238 (C0 : CallFix p m c cc nL s args gTB RX6) (hK : gK E s) (hP : va_P (gD E) vwCl (wl E μ ν τ) H) {r : Nat} (hr : r < 4) (hdg : decode cc pc = .ok (.getfield 238, 3)) (kk : W p l e R s m args below meth c H locs cells slots Q (F0 m (pc + 3) ls (.int (μ (10 + r) 2) :: rest))) : W p l e R s m args below meth c H locs cells slots Q (F0 m pc ls (.ref (gL E (10 + r)) :: rest)) := g_getN C0 hK hP (by omega) (gen_sheet hr) rfl inX4 2 (by decide) qf_X6_238 rfl hdg kk
theorem gp_X6_238 {v : Int32} (hE : gLok E) (C0 : CallFix p m c cc nL s args gTB RX6) (hK : gK E s) (hP : va_P (gD E) vwCl (wl E μ ν τ) H) (hS : va_S (gA E) s.heap H locs) {r : Nat} (hr : r < 4) (hdg : decode cc pc = .ok (.putfield 238, 3)) (kk : ∀ (H : Heap) (locs : List Loc), va_P (gD E) vwCl (wl E (up2 μ (10 + r) 2 v) ν τ) H → va_S (gA E) s.heap H locs → W p l e R s m args below meth c H locs cells slots Q (F0 m (pc + 3) ls rest)) : W p l e R s m args below meth c H locs cells slots Q (F0 m pc ls (.int v :: .ref (gL E (10 + r)) :: rest)) := g_putXN (fs := fun f => [.ref (gL E (14 + r)), .int (f 1), .int (f 2)]) hE C0 hK hP hS (by omega) (fun _ => (gen_sheet hr)) rfl inX4 tyX4_ok nmX4 2 (by decide) qf_X6_238 rfl (by decide +kernel) (Nat.le_of_ble_eq_true rfl) rfl hdg kk
theorem ga_19 : gen E μ ν τ 19 = .inl (gI E, 10, .inl (μ 19)) := by simp [gen, gen0]
theorem ga_21 : gen E μ ν τ 21 = .inl (gI E, 10, .inl (μ 21)) := by simp [gen, gen0]
theorem ga_23 : gen E μ ν τ 23 = .inl (gI E, 512, .inl (μ 23)) := by simp [gen, gen0]
theorem ga_24 : gen E μ ν τ 24 = .inl (gI E, 512, .inl (μ 24)) := by simp [gen, gen0]
theorem ga_26 : gen E μ ν τ 26 = .inl (gI E, 8, .inl (μ 26)) := by simp [gen, gen0]
theorem ga_27 : gen E μ ν τ 27 = .inl (gI E, 8, .inl (μ 27)) := by simp [gen, gen0]
theorem ga_28 : gen E μ ν τ 28 = .inl (gI E, 2560, .inl (μ 28)) := by simp [gen, gen0]
theorem ga_33 : gen E μ ν τ 33 = .inl (gI E, 4, .inl (ν 33)) := by simp [gen, gen0]
theorem ga_34 : gen E μ ν τ 34 = .inl (gI E, 4, .inl (ν 34)) := by simp [gen, gen0]
theorem ga_35 : gen E μ ν τ 35 = .inl (gI E, 160, .inl (ν 35)) := by simp [gen, gen0]
theorem ga_36 : gen E μ ν τ 36 = .inl (gI E, 8, .inl (ν 36)) := by simp [gen, gen0]
theorem ga_37 : gen E μ ν τ 37 = .inl (gI E, 10, .inl (ν 37)) := by simp [gen, gen0]
theorem ga_38 : gen E μ ν τ 38 = .inl (gI E, 8, .inl (ν 38)) := by simp [gen, gen0]
theorem ga_39 : gen E μ ν τ 39 = .inl (gI E, 1010, .inl (ν 39)) := by simp [gen, gen0]
theorem ga_40 : gen E μ ν τ 40 = .inl (gI E, 8, .inl (ν 40)) := by simp [gen, gen0]
theorem ga_41 : gen E μ ν τ 41 = .inl (gI E, 3, .inl (ν 41)) := by simp [gen, gen0]
theorem ga_42 : gen E μ ν τ 42 = .inl (gI E, 24, .inl (ν 42)) := by simp [gen, gen0]
theorem ga_43 : gen E μ ν τ 43 = .inl (gI E, 8, .inl (ν 43)) := by simp [gen, gen0]
theorem ga_45 : gen E μ ν τ 45 = .inl (gI E, 512, .inl (ν 45)) := by simp [gen, gen0]
end GF
