set_option maxRecDepth 100000 in
theorem lk_X10_369 : LK RX10 369 yX9_gather := gb_in (by decide +kernel) (by decide +kernel)
set_option maxRecDepth 100000 in
theorem lk_X10_370 : LK RX10 370 yX8_gather := gb_in (by decide +kernel) (by decide +kernel)
set_option maxRecDepth 100000 in
theorem lk_X11_108 : LK RX11 108 yX11_laysWord := gb_in (by decide +kernel) (by decide +kernel)
set_option maxRecDepth 100000 in
theorem lk_X11_118 : LK RX11 118 yX11_see := gb_in (by decide +kernel) (by decide +kernel)
set_option maxRecDepth 100000 in
theorem lk_X11_128 : LK RX11 128 yX11_in := gb_in (by decide +kernel) (by decide +kernel)
set_option maxRecDepth 100000 in
theorem lk_X11_135 : LK RX11 135 yJ0_length_8abf5 := gb_in (by decide +kernel) (by decide +kernel)
set_option maxRecDepth 100000 in
theorem lk_X11_141 : LK RX11 141 yJ0_charAt_5068e := gb_in (by decide +kernel) (by decide +kernel)
set_option maxRecDepth 100000 in
theorem lk_X11_151 : LK RX11 151 yX11_errs := gb_in (by decide +kernel) (by decide +kernel)
set_option maxRecDepth 100000 in
theorem lk_X11_155 : LK RX11 155 yX11_goesOn := gb_in (by decide +kernel) (by decide +kernel)
set_option maxRecDepth 100000 in
theorem lk_X11_158 : LK RX11 158 yX11_isWord := gb_in (by decide +kernel) (by decide +kernel)
set_option maxRecDepth 100000 in
theorem lk_X11_162 : LK RX11 162 yX11_lays := gb_in (by decide +kernel) (by decide +kernel)
set_option maxRecDepth 100000 in
theorem lk_X11_171 : LK RX11 171 yX11_after := gb_in (by decide +kernel) (by decide +kernel)
set_option maxRecDepth 100000 in
theorem lk_X11_185 : LK RX11 185 yX11_readSheet := gb_in (by decide +kernel) (by decide +kernel)
set_option maxRecDepth 100000 in
theorem lk_X11_191 : LK RX11 191 yX11_readStroke := gb_in (by decide +kernel) (by decide +kernel)
set_option maxRecDepth 100000 in
theorem lk_X11_196 : LK RX11 196 yX11_readHome := gb_in (by decide +kernel) (by decide +kernel)
set_option maxRecDepth 100000 in
theorem lk_X11_201 : LK RX11 201 yX11_readPace := gb_in (by decide +kernel) (by decide +kernel)
set_option maxRecDepth 100000 in
theorem lk_X11_204 : LK RX11 204 yX11_readLine := gb_in (by decide +kernel) (by decide +kernel)
set_option maxRecDepth 100000 in
theorem lk_X11_207 : LK RX11 207 yX11_isRefused := gb_in (by decide +kernel) (by decide +kernel)
set_option maxRecDepth 100000 in
theorem lk_X11_213 : LK RX11 213 yX11_readAll := gb_in (by decide +kernel) (by decide +kernel)
set_option maxRecDepth 100000 in
theorem lk_X11_216 : LK RX11 216 yX11_no := gb_in (by decide +kernel) (by decide +kernel)
set_option maxRecDepth 100000 in
theorem lk_X11_219 : LK RX11 219 yX11_copies := gb_in (by decide +kernel) (by decide +kernel)
set_option maxRecDepth 100000 in
theorem lk_X11_229 : LK RX11 229 yX11_plansAnew := gb_in (by decide +kernel) (by decide +kernel)
set_option maxRecDepth 100000 in
theorem lk_X11_232 : LK RX11 232 yX11_endX := gb_in (by decide +kernel) (by decide +kernel)
set_option maxRecDepth 100000 in
theorem lk_X11_235 : LK RX11 235 yX11_abs := gb_in (by decide +kernel) (by decide +kernel)
set_option maxRecDepth 100000 in
theorem lk_X11_238 : LK RX11 238 yX11_endY := gb_in (by decide +kernel) (by decide +kernel)
set_option maxRecDepth 100000 in
theorem lk_X11_241 : LK RX11 241 yX11_apart := gb_in (by decide +kernel) (by decide +kernel)
set_option maxRecDepth 100000 in
theorem lk_X11_245 : LK RX11 245 yX11_numbers := gb_in (by decide +kernel) (by decide +kernel)
set_option maxRecDepth 100000 in
theorem lk_X11_252 : LK RX11 252 yX11_laysParts := gb_in (by decide +kernel) (by decide +kernel)
set_option maxRecDepth 100000 in
theorem lk_X11_264 : LK RX11 264 yX11_isOdd := gb_in (by decide +kernel) (by decide +kernel)
set_option maxRecDepth 100000 in
theorem lk_X11_267 : LK RX11 267 yX11_pairs := gb_in (by decide +kernel) (by decide +kernel)
set_option maxRecDepth 100000 in
theorem lk_X11_271 : LK RX11 271 yX11_pairsBest := gb_in (by decide +kernel) (by decide +kernel)
set_option maxRecDepth 100000 in
theorem lk_X11_274 : LK RX11 274 yX11_farOf := gb_in (by decide +kernel) (by decide +kernel)
set_option maxRecDepth 100000 in
theorem lk_X11_277 : LK RX11 277 yX11_far := gb_in (by decide +kernel) (by decide +kernel)
set_option maxRecDepth 100000 in
theorem lk_X11_280 : LK RX11 280 yX11_lowest := gb_in (by decide +kernel) (by decide +kernel)
set_option maxRecDepth 100000 in
theorem lk_X11_284 : LK RX11 284 yX11_nextWay := gb_in (by decide +kernel) (by decide +kernel)
set_option maxRecDepth 100000 in
theorem lk_X11_287 : LK RX11 287 yX11_across := gb_in (by decide +kernel) (by decide +kernel)
set_option maxRecDepth 100000 in
theorem lk_X11_293 : LK RX11 293 yX11_goesFrom := gb_in (by decide +kernel) (by decide +kernel)
set_option maxRecDepth 100000 in
theorem lk_X11_299 : LK RX11 299 yX11_laysMeetings := gb_in (by decide +kernel) (by decide +kernel)
set_option maxRecDepth 100000 in
theorem lk_X11_302 : LK RX11 302 yX11_laysPairs := gb_in (by decide +kernel) (by decide +kernel)
set_option maxRecDepth 100000 in
theorem lk_X11_305 : LK RX11 305 yX11_walksPart := gb_in (by decide +kernel) (by decide +kernel)
set_option maxRecDepth 100000 in
theorem lk_X11_308 : LK RX11 308 yX11_laysTrails := gb_in (by decide +kernel) (by decide +kernel)
set_option maxRecDepth 100000 in
theorem lk_X11_311 : LK RX11 311 yX11_reckons := gb_in (by decide +kernel) (by decide +kernel)
set_option maxRecDepth 100000 in
theorem lk_X11_314 : LK RX11 314 yX11_unless := gb_in (by decide +kernel) (by decide +kernel)
set_option maxRecDepth 100000 in
theorem lk_X11_318 : LK RX11 318 yX11_isAsked := gb_in (by decide +kernel) (by decide +kernel)
set_option maxRecDepth 100000 in
theorem lk_X11_322 : LK RX11 322 yX11_oddAll := gb_in (by decide +kernel) (by decide +kernel)
set_option maxRecDepth 100000 in
theorem lk_X11_325 : LK RX11 325 yX11_meetingsOf := gb_in (by decide +kernel) (by decide +kernel)
set_option maxRecDepth 100000 in
theorem lk_X11_328 : LK RX11 328 yX11_strokesOf := gb_in (by decide +kernel) (by decide +kernel)
set_option maxRecDepth 100000 in
theorem lk_X11_331 : LK RX11 331 yX11_trailsOf := gb_in (by decide +kernel) (by decide +kernel)
set_option maxRecDepth 100000 in
theorem lk_X11_334 : LK RX11 334 yX11_pairsOf := gb_in (by decide +kernel) (by decide +kernel)
set_option maxRecDepth 100000 in
theorem lk_X11_337 : LK RX11 337 yX11_isTurned := gb_in (by decide +kernel) (by decide +kernel)
set_option maxRecDepth 100000 in
theorem lk_X11_340 : LK RX11 340 yX11_planned := gb_in (by decide +kernel) (by decide +kernel)
set_option maxRecDepth 100000 in
theorem lk_X11_343 : LK RX11 343 yX11_startAt := gb_in (by decide +kernel) (by decide +kernel)
set_option maxRecDepth 100000 in
theorem lk_X11_346 : LK RX11 346 yX11_fromHome := gb_in (by decide +kernel) (by decide +kernel)
set_option maxRecDepth 100000 in
theorem lk_X11_349 : LK RX11 349 yX11_endAt := gb_in (by decide +kernel) (by decide +kernel)
set_option maxRecDepth 100000 in
theorem lk_X11_352 : LK RX11 352 yX11_leap := gb_in (by decide +kernel) (by decide +kernel)
set_option maxRecDepth 100000 in
theorem lk_X11_355 : LK RX11 355 yX11_longOf := gb_in (by decide +kernel) (by decide +kernel)
set_option maxRecDepth 100000 in
theorem lk_X11_358 : LK RX11 358 yX11_rideAt := gb_in (by decide +kernel) (by decide +kernel)
set_option maxRecDepth 100000 in
theorem lk_X11_361 : LK RX11 361 yX11_leaps := gb_in (by decide +kernel) (by decide +kernel)
set_option maxRecDepth 100000 in
theorem lk_X11_364 : LK RX11 364 yX11_laysAside := gb_in (by decide +kernel) (by decide +kernel)
set_option maxRecDepth 100000 in
theorem lk_X11_367 : LK RX11 367 yX11_takesBack := gb_in (by decide +kernel) (by decide +kernel)
set_option maxRecDepth 100000 in
theorem lk_X11_370 : LK RX11 370 yX11_exchanges := gb_in (by decide +kernel) (by decide +kernel)
set_option maxRecDepth 100000 in
theorem lk_X11_374 : LK RX11 374 yX11_isBettered := gb_in (by decide +kernel) (by decide +kernel)
set_option maxRecDepth 100000 in
theorem lk_X11_377 : LK RX11 377 yX11_betters := gb_in (by decide +kernel) (by decide +kernel)
set_option maxRecDepth 100000 in
theorem lk_X11_380 : LK RX11 380 yX11_isRun := gb_in (by decide +kernel) (by decide +kernel)
set_option maxRecDepth 100000 in
theorem lk_X11_387 : LK RX11 387 yX11_branch := gb_in (by decide +kernel) (by decide +kernel)
set_option maxRecDepth 100000 in
theorem lk_X11_390 : LK RX11 390 yX11_allTime := gb_in (by decide +kernel) (by decide +kernel)
set_option maxRecDepth 100000 in
theorem lk_X11_403 : LK RX11 403 yX11_goesTill := gb_in (by decide +kernel) (by decide +kernel)
set_option maxRecDepth 100000 in
theorem lk_X11_406 : LK RX11 406 yX11_isPoint := gb_in (by decide +kernel) (by decide +kernel)
set_option maxRecDepth 100000 in
theorem lk_X11_409 : LK RX11 409 yX11_strokeWhy := gb_in (by decide +kernel) (by decide +kernel)
set_option maxRecDepth 100000 in
theorem lk_X11_413 : LK RX11 413 yX11_comes := gb_in (by decide +kernel) (by decide +kernel)
set_option maxRecDepth 100000 in
theorem lk_X11_417 : LK RX11 417 yX11_leaves := gb_in (by decide +kernel) (by decide +kernel)
set_option maxRecDepth 100000 in
theorem lk_X11_420 : LK RX11 420 yX11_trailsBy := gb_in (by decide +kernel) (by decide +kernel)
set_option maxRecDepth 100000 in
theorem lk_X11_423 : LK RX11 423 yX11_unless_ := gb_in (by decide +kernel) (by decide +kernel)
set_option maxRecDepth 100000 in
theorem lk_X11_426 : LK RX11 426 yX11_keeps := gb_in (by decide +kernel) (by decide +kernel)
set_option maxRecDepth 100000 in
theorem lk_X0_40 : LK RX0 40 Lib.Math.abs.name := gb_in (by decide +kernel) (by decide +kernel)
set_option maxRecDepth 100000 in
theorem lk_X0_46 : LK RX0 46 yX0_endsApart := gb_in (by decide +kernel) (by decide +kernel)
set_option maxRecDepth 100000 in
theorem lk_X0_50 : LK RX0 50 yX0_strokeLength := gb_in (by decide +kernel) (by decide +kernel)
set_option maxRecDepth 100000 in
theorem lk_X1_28 : LK RX1 28 Lib.Math.min.name := gb_in (by decide +kernel) (by decide +kernel)
set_option maxRecDepth 100000 in
theorem lk_X1_34 : LK RX1 34 Lib.Math.max.name := gb_in (by decide +kernel) (by decide +kernel)
set_option maxRecDepth 100000 in
theorem lk_X2_32 : LK RX2 32 yX0_copy := gb_in (by decide +kernel) (by decide +kernel)
set_option maxRecDepth 100000 in
theorem lk_X2_36 : LK RX2 36 yX5_copy := gb_in (by decide +kernel) (by decide +kernel)
set_option maxRecDepth 100000 in
theorem lk_X2_39 : LK RX2 39 Lib.Math.min.name := gb_in (by decide +kernel) (by decide +kernel)
set_option maxRecDepth 100000 in
theorem lk_X3_38 : LK RX3 38 yX3_gatherEnds := gb_in (by decide +kernel) (by decide +kernel)
set_option maxRecDepth 100000 in
theorem lk_X3_42 : LK RX3 42 yX3_gatherParts := gb_in (by decide +kernel) (by decide +kernel)
set_option maxRecDepth 100000 in
theorem lk_X3_45 : LK RX3 45 yX3_countEnds := gb_in (by decide +kernel) (by decide +kernel)
set_option maxRecDepth 100000 in
theorem lk_X3_48 : LK RX3 48 yX3_countOdds := gb_in (by decide +kernel) (by decide +kernel)
set_option maxRecDepth 100000 in
theorem lk_X3_57 : LK RX3 57 yX1_begin := gb_in (by decide +kernel) (by decide +kernel)
set_option maxRecDepth 100000 in
theorem lk_X3_60 : LK RX3 60 yX3_tieNearTo := gb_in (by decide +kernel) (by decide +kernel)
set_option maxRecDepth 100000 in
theorem lk_X3_64 : LK RX3 64 yX1_numberAll := gb_in (by decide +kernel) (by decide +kernel)
set_option maxRecDepth 100000 in
theorem lk_X3_79 : LK RX3 79 Lib.Math.abs.name := gb_in (by decide +kernel) (by decide +kernel)
set_option maxRecDepth 100000 in
theorem lk_X3_85 : LK RX3 85 yX1_tie := gb_in (by decide +kernel) (by decide +kernel)
set_option maxRecDepth 100000 in
theorem lk_X3_89 : LK RX3 89 yX3_of := gb_in (by decide +kernel) (by decide +kernel)
set_option maxRecDepth 100000 in
theorem lk_X3_92 : LK RX3 92 yX3_isOdd := gb_in (by decide +kernel) (by decide +kernel)
set_option maxRecDepth 100000 in
theorem lk_X3_96 : LK RX3 96 yX3_partOf := gb_in (by decide +kernel) (by decide +kernel)
set_option maxRecDepth 100000 in
theorem lk_X3_108 : LK RX3 108 yX3_xOf := gb_in (by decide +kernel) (by decide +kernel)
set_option maxRecDepth 100000 in
theorem lk_X3_111 : LK RX3 111 yX3_yOf := gb_in (by decide +kernel) (by decide +kernel)
set_option maxRecDepth 100000 in
theorem lk_X3_114 : LK RX3 114 Lib.Math.max.name := gb_in (by decide +kernel) (by decide +kernel)
set_option maxRecDepth 100000 in
theorem lk_X3_118 : LK RX3 118 yX3_trailsIn := gb_in (by decide +kernel) (by decide +kernel)
set_option maxRecDepth 100000 in
theorem lk_X4_60 : LK RX4 60 yX3_parts := gb_in (by decide +kernel) (by decide +kernel)
set_option maxRecDepth 100000 in
theorem lk_X4_66 : LK RX4 66 yX4_listOdds := gb_in (by decide +kernel) (by decide +kernel)
set_option maxRecDepth 100000 in
theorem lk_X4_70 : LK RX4 70 yX4_pairNeighbours := gb_in (by decide +kernel) (by decide +kernel)
set_option maxRecDepth 100000 in
theorem lk_X4_73 : LK RX4 73 yX4_pairByLeast := gb_in (by decide +kernel) (by decide +kernel)
set_option maxRecDepth 100000 in
theorem lk_X4_76 : LK RX4 76 yX4_markCut := gb_in (by decide +kernel) (by decide +kernel)
set_option maxRecDepth 100000 in
theorem lk_X4_79 : LK RX4 79 yX3_count := gb_in (by decide +kernel) (by decide +kernel)
set_option maxRecDepth 100000 in
theorem lk_X4_81 : LK RX4 81 yX3_partOf := gb_in (by decide +kernel) (by decide +kernel)
set_option maxRecDepth 100000 in
theorem lk_X4_85 : LK RX4 85 yX3_isOdd := gb_in (by decide +kernel) (by decide +kernel)
set_option maxRecDepth 100000 in
theorem lk_X4_89 : LK RX4 89 yX3_apart := gb_in (by decide +kernel) (by decide +kernel)
set_option maxRecDepth 100000 in
theorem lk_X4_93 : LK RX4 93 yX4_putPair := gb_in (by decide +kernel) (by decide +kernel)
set_option maxRecDepth 100000 in
theorem lk_X4_97 : LK RX4 97 yX4_measureOdds := gb_in (by decide +kernel) (by decide +kernel)
set_option maxRecDepth 100000 in
theorem lk_X4_100 : LK RX4 100 yX4_listSets := gb_in (by decide +kernel) (by decide +kernel)
set_option maxRecDepth 100000 in
theorem lk_X4_103 : LK RX4 103 yX4_fillLeast := gb_in (by decide +kernel) (by decide +kernel)
set_option maxRecDepth 100000 in
theorem lk_X4_106 : LK RX4 106 yX4_firstFree := gb_in (by decide +kernel) (by decide +kernel)
set_option maxRecDepth 100000 in
theorem lk_X4_109 : LK RX4 109 yX4_bestPartner := gb_in (by decide +kernel) (by decide +kernel)
set_option maxRecDepth 100000 in
theorem lk_X4_112 : LK RX4 112 yX4_clearSets := gb_in (by decide +kernel) (by decide +kernel)
set_option maxRecDepth 100000 in
theorem lk_X4_115 : LK RX4 115 yX4_putSet := gb_in (by decide +kernel) (by decide +kernel)
set_option maxRecDepth 100000 in
theorem lk_X4_118 : LK RX4 118 yX4_slotOf := gb_in (by decide +kernel) (by decide +kernel)
set_option maxRecDepth 100000 in
theorem lk_X5_34 : LK RX5 34 yX5_isBackwards := gb_in (by decide +kernel) (by decide +kernel)
set_option maxRecDepth 100000 in
theorem lk_X5_41 : LK RX5 41 yX5_trailAt := gb_in (by decide +kernel) (by decide +kernel)
set_option maxRecDepth 100000 in
theorem lk_X5_51 : LK RX5 51 yX8_strokeOf := gb_in (by decide +kernel) (by decide +kernel)
set_option maxRecDepth 100000 in
theorem lk_X5_55 : LK RX5 55 yX5_endOf := gb_in (by decide +kernel) (by decide +kernel)
set_option maxRecDepth 100000 in
theorem lk_X5_60 : LK RX5 60 yX5_beginOf := gb_in (by decide +kernel) (by decide +kernel)
set_option maxRecDepth 100000 in
theorem lk_X5_63 : LK RX5 63 yX5_spotAhead := gb_in (by decide +kernel) (by decide +kernel)
set_option maxRecDepth 100000 in
theorem lk_X5_66 : LK RX5 66 yX5_spotBehind := gb_in (by decide +kernel) (by decide +kernel)
set_option maxRecDepth 100000 in
theorem lk_X5_69 : LK RX5 69 yX3_apart := gb_in (by decide +kernel) (by decide +kernel)
set_option maxRecDepth 100000 in
theorem lk_X5_72 : LK RX5 72 yX5_leg := gb_in (by decide +kernel) (by decide +kernel)
set_option maxRecDepth 100000 in
theorem lk_X5_80 : LK RX5 80 yX0_allLengths := gb_in (by decide +kernel) (by decide +kernel)
set_option maxRecDepth 100000 in
theorem lk_X5_87 : LK RX5 87 yX5_wholeTravel := gb_in (by decide +kernel) (by decide +kernel)
set_option maxRecDepth 100000 in
theorem lk_X5_90 : LK RX5 90 yX5_turnsFirstThatWins := gb_in (by decide +kernel) (by decide +kernel)
set_option maxRecDepth 100000 in
theorem lk_X5_94 : LK RX5 94 yX5_changeBy := gb_in (by decide +kernel) (by decide +kernel)
set_option maxRecDepth 100000 in
theorem lk_X5_97 : LK RX5 97 yX5_turnRun := gb_in (by decide +kernel) (by decide +kernel)
set_option maxRecDepth 100000 in
theorem lk_X5_101 : LK RX5 101 yX5_ofPen := gb_in (by decide +kernel) (by decide +kernel)
set_option maxRecDepth 100000 in
theorem lk_X5_105 : LK RX5 105 yX5_strokeAt := gb_in (by decide +kernel) (by decide +kernel)
set_option maxRecDepth 100000 in
theorem lk_X5_108 : LK RX5 108 yX0_strokeLength := gb_in (by decide +kernel) (by decide +kernel)
set_option maxRecDepth 100000 in
theorem lk_X6_36 : LK RX6 36 yX6_begin := gb_in (by decide +kernel) (by decide +kernel)
set_option maxRecDepth 100000 in
theorem lk_X6_40 : LK RX6 40 yX6_readsLine := gb_in (by decide +kernel) (by decide +kernel)
set_option maxRecDepth 100000 in
theorem lk_X6_44 : LK RX6 44 yX7_step := gb_in (by decide +kernel) (by decide +kernel)
set_option maxRecDepth 100000 in
theorem lk_X6_52 : LK RX6 52 yX6_fails := gb_in (by decide +kernel) (by decide +kernel)
set_option maxRecDepth 100000 in
theorem lk_X6_56 : LK RX6 56 yX7_rewind := gb_in (by decide +kernel) (by decide +kernel)
set_option maxRecDepth 100000 in
theorem lk_X6_59 : LK RX6 59 yX0_clear := gb_in (by decide +kernel) (by decide +kernel)
set_option maxRecDepth 100000 in
theorem lk_X6_69 : LK RX6 69 yX7_isWord := gb_in (by decide +kernel) (by decide +kernel)
set_option maxRecDepth 100000 in
theorem lk_X6_73 : LK RX6 73 yX6_readsSheet := gb_in (by decide +kernel) (by decide +kernel)
set_option maxRecDepth 100000 in
theorem lk_X6_82 : LK RX6 82 yX6_readsStroke := gb_in (by decide +kernel) (by decide +kernel)
set_option maxRecDepth 100000 in
theorem lk_X6_85 : LK RX6 85 yX6_readsHome := gb_in (by decide +kernel) (by decide +kernel)
set_option maxRecDepth 100000 in
theorem lk_X6_88 : LK RX6 88 yX6_readsPace := gb_in (by decide +kernel) (by decide +kernel)
set_option maxRecDepth 100000 in
theorem lk_X6_93 : LK RX6 93 yX6_readsWord := gb_in (by decide +kernel) (by decide +kernel)
set_option maxRecDepth 100000 in
theorem lk_X6_96 : LK RX6 96 yX6_readsWhole := gb_in (by decide +kernel) (by decide +kernel)
set_option maxRecDepth 100000 in
theorem lk_X6_112 : LK RX6 112 yX0_putStroke := gb_in (by decide +kernel) (by decide +kernel)
set_option maxRecDepth 100000 in
theorem lk_X7_32 : LK RX7 32 Lib.Math.min.name := gb_in (by decide +kernel) (by decide +kernel)
set_option maxRecDepth 100000 in
theorem lk_X7_38 : LK RX7 38 yX7_kindOf := gb_in (by decide +kernel) (by decide +kernel)
set_option maxRecDepth 100000 in
theorem lk_X7_42 : LK RX7 42 yJ0_length_8abf5 := gb_in (by decide +kernel) (by decide +kernel)
set_option maxRecDepth 100000 in
theorem lk_X7_47 : LK RX7 47 yJ0_charAt_5068e := gb_in (by decide +kernel) (by decide +kernel)
set_option maxRecDepth 100000 in
theorem lk_X8_62 : LK RX8 62 yX3_parts := gb_in (by decide +kernel) (by decide +kernel)
set_option maxRecDepth 100000 in
theorem lk_X8_68 : LK RX8 68 yX9_waysIn := gb_in (by decide +kernel) (by decide +kernel)
set_option maxRecDepth 100000 in
theorem lk_X8_74 : LK RX8 74 yX9_wayOf := gb_in (by decide +kernel) (by decide +kernel)
set_option maxRecDepth 100000 in
theorem lk_X8_78 : LK RX8 78 yX9_isHop := gb_in (by decide +kernel) (by decide +kernel)
set_option maxRecDepth 100000 in
theorem lk_X8_82 : LK RX8 82 yX8_open := gb_in (by decide +kernel) (by decide +kernel)
set_option maxRecDepth 100000 in
theorem lk_X8_86 : LK RX8 86 yX8_putStroke := gb_in (by decide +kernel) (by decide +kernel)
set_option maxRecDepth 100000 in
theorem lk_X8_90 : LK RX8 90 yX3_of := gb_in (by decide +kernel) (by decide +kernel)
set_option maxRecDepth 100000 in
theorem lk_X8_93 : LK RX8 93 yX0_strokeLength := gb_in (by decide +kernel) (by decide +kernel)
set_option maxRecDepth 100000 in
theorem lk_X8_98 : LK RX8 98 yX3_apart := gb_in (by decide +kernel) (by decide +kernel)
set_option maxRecDepth 100000 in
theorem lk_X8_101 : LK RX8 101 Lib.Math.min.name := gb_in (by decide +kernel) (by decide +kernel)
set_option maxRecDepth 100000 in
theorem lk_X8_106 : LK RX8 106 yX8_nearestTrail := gb_in (by decide +kernel) (by decide +kernel)
set_option maxRecDepth 100000 in
theorem lk_X8_109 : LK RX8 109 yX8_comeNear := gb_in (by decide +kernel) (by decide +kernel)
set_option maxRecDepth 100000 in
theorem lk_X8_112 : LK RX8 112 yX8_branch := gb_in (by decide +kernel) (by decide +kernel)
set_option maxRecDepth 100000 in
theorem lk_X9_64 : LK RX9 64 yX3_parts := gb_in (by decide +kernel) (by decide +kernel)
set_option maxRecDepth 100000 in
theorem lk_X9_70 : LK RX9 70 yX9_makeWalk := gb_in (by decide +kernel) (by decide +kernel)
set_option maxRecDepth 100000 in
theorem lk_X9_74 : LK RX9 74 yX4_cutOf := gb_in (by decide +kernel) (by decide +kernel)
set_option maxRecDepth 100000 in
theorem lk_X9_78 : LK RX9 78 yX3_firstMeeting := gb_in (by decide +kernel) (by decide +kernel)
set_option maxRecDepth 100000 in
theorem lk_X9_84 : LK RX9 84 yX9_makeRing := gb_in (by decide +kernel) (by decide +kernel)
set_option maxRecDepth 100000 in
theorem lk_X9_88 : LK RX9 88 yX9_putRing := gb_in (by decide +kernel) (by decide +kernel)
set_option maxRecDepth 100000 in
theorem lk_X9_91 : LK RX9 91 yX9_firstOpenPlace := gb_in (by decide +kernel) (by decide +kernel)
set_option maxRecDepth 100000 in
theorem lk_X9_94 : LK RX9 94 yX9_firstWayFrom := gb_in (by decide +kernel) (by decide +kernel)
set_option maxRecDepth 100000 in
theorem lk_X9_98 : LK RX9 98 yX9_goneBy := gb_in (by decide +kernel) (by decide +kernel)
set_option maxRecDepth 100000 in
theorem lk_X9_106 : LK RX9 106 yX3_of := gb_in (by decide +kernel) (by decide +kernel)
set_option maxRecDepth 100000 in
theorem lk_X9_109 : LK RX9 109 yX4_firstIn := gb_in (by decide +kernel) (by decide +kernel)
set_option maxRecDepth 100000 in
theorem lk_X9_112 : LK RX9 112 yX4_behindLastIn := gb_in (by decide +kernel) (by decide +kernel)
set_option maxRecDepth 100000 in
theorem lk_X9_118 : LK RX9 118 yX9_isHop := gb_in (by decide +kernel) (by decide +kernel)
set_option maxRecDepth 100000 in
theorem lk_L_7 : LK RL 7 yX10_loose := gb_in (by decide +kernel) (by decide +kernel)
set_option maxRecDepth 100000 in
theorem lk_L_19 : LK RL 19 yX10_feed := gb_in (by decide +kernel) (by decide +kernel)
set_option maxRecDepth 100000 in
theorem lk_L_23 : LK RL 23 yX11_feed := gb_in (by decide +kernel) (by decide +kernel)
set_option maxRecDepth 100000 in
theorem lk_L_24 : LK RL 24 yX10_sheet := gb_in (by decide +kernel) (by decide +kernel)
set_option maxRecDepth 100000 in
theorem lk_L_27 : LK RL 27 yX11_sheet := gb_in (by decide +kernel) (by decide +kernel)
set_option maxRecDepth 100000 in
theorem lk_L_28 : LK RL 28 yX10_fault := gb_in (by decide +kernel) (by decide +kernel)
set_option maxRecDepth 100000 in
theorem lk_L_32 : LK RL 32 yX11_fault := gb_in (by decide +kernel) (by decide +kernel)
set_option maxRecDepth 100000 in
theorem lk_L_33 : LK RL 33 yX10_where := gb_in (by decide +kernel) (by decide +kernel)
set_option maxRecDepth 100000 in
theorem lk_L_36 : LK RL 36 yX11_where := gb_in (by decide +kernel) (by decide +kernel)
set_option maxRecDepth 100000 in
theorem lk_L_37 : LK RL 37 yX10_about := gb_in (by decide +kernel) (by decide +kernel)
set_option maxRecDepth 100000 in
theorem lk_L_40 : LK RL 40 yX11_about := gb_in (by decide +kernel) (by decide +kernel)
set_option maxRecDepth 100000 in
theorem lk_L_41 : LK RL 41 yX10_stroke := gb_in (by decide +kernel) (by decide +kernel)
set_option maxRecDepth 100000 in
theorem lk_L_45 : LK RL 45 yX11_stroke := gb_in (by decide +kernel) (by decide +kernel)
set_option maxRecDepth 100000 in
theorem lk_L_46 : LK RL 46 yX10_meeting := gb_in (by decide +kernel) (by decide +kernel)
set_option maxRecDepth 100000 in
theorem lk_L_49 : LK RL 49 yX11_meeting := gb_in (by decide +kernel) (by decide +kernel)
set_option maxRecDepth 100000 in
theorem lk_L_50 : LK RL 50 yX10_part := gb_in (by decide +kernel) (by decide +kernel)
set_option maxRecDepth 100000 in
theorem lk_L_53 : LK RL 53 yX11_part := gb_in (by decide +kernel) (by decide +kernel)
set_option maxRecDepth 100000 in
theorem lk_L_54 : LK RL 54 yX10_pair := gb_in (by decide +kernel) (by decide +kernel)
set_option maxRecDepth 100000 in
theorem lk_L_57 : LK RL 57 yX11_pair := gb_in (by decide +kernel) (by decide +kernel)
set_option maxRecDepth 100000 in
theorem lk_L_58 : LK RL 58 yX10_walk := gb_in (by decide +kernel) (by decide +kernel)
set_option maxRecDepth 100000 in
theorem lk_L_61 : LK RL 61 yX11_walk := gb_in (by decide +kernel) (by decide +kernel)
set_option maxRecDepth 100000 in
theorem lk_L_62 : LK RL 62 yX10_trail := gb_in (by decide +kernel) (by decide +kernel)
set_option maxRecDepth 100000 in
theorem lk_L_65 : LK RL 65 yX11_trail := gb_in (by decide +kernel) (by decide +kernel)
set_option maxRecDepth 100000 in
theorem lk_L_66 : LK RL 66 yX10_ride := gb_in (by decide +kernel) (by decide +kernel)
set_option maxRecDepth 100000 in
theorem lk_L_69 : LK RL 69 yX11_ride := gb_in (by decide +kernel) (by decide +kernel)
set_option maxRecDepth 100000 in
theorem lk_L_70 : LK RL 70 yX10_travel := gb_in (by decide +kernel) (by decide +kernel)
set_option maxRecDepth 100000 in
theorem lk_L_73 : LK RL 73 yX11_travel := gb_in (by decide +kernel) (by decide +kernel)
set_option maxRecDepth 100000 in
theorem lk_L_74 : LK RL 74 yX10_started := gb_in (by decide +kernel) (by decide +kernel)
set_option maxRecDepth 100000 in
theorem lk_L_77 : LK RL 77 yX11_started := gb_in (by decide +kernel) (by decide +kernel)
set_option maxRecDepth 100000 in
theorem lk_L_78 : LK RL 78 yX10_better := gb_in (by decide +kernel) (by decide +kernel)
set_option maxRecDepth 100000 in
theorem lk_L_81 : LK RL 81 yX11_better := gb_in (by decide +kernel) (by decide +kernel)
set_option maxRecDepth 100000 in
theorem lk_L_82 : LK RL 82 yX10_exchanged := gb_in (by decide +kernel) (by decide +kernel)
set_option maxRecDepth 100000 in
theorem lk_L_85 : LK RL 85 yX11_exchanged := gb_in (by decide +kernel) (by decide +kernel)
set_option maxRecDepth 100000 in
theorem lk_L_86 : LK RL 86 yX10_floor := gb_in (by decide +kernel) (by decide +kernel)
set_option maxRecDepth 100000 in
theorem lk_L_89 : LK RL 89 yX11_floor := gb_in (by decide +kernel) (by decide +kernel)
set_option maxRecDepth 100000 in
theorem lk_L_90 : LK RL 90 yX10_time := gb_in (by decide +kernel) (by decide +kernel)
set_option maxRecDepth 100000 in
theorem lk_L_93 : LK RL 93 yX11_time := gb_in (by decide +kernel) (by decide +kernel)
set_option maxRecDepth 100000 in
theorem lk_L_94 : LK RL 94 yX10_pen := gb_in (by decide +kernel) (by decide +kernel)
set_option maxRecDepth 100000 in
theorem lk_L_97 : LK RL 97 yX11_pen := gb_in (by decide +kernel) (by decide +kernel)
set_option maxRecDepth 100000 in
theorem lk_L_98 : LK RL 98 yX10_longest := gb_in (by decide +kernel) (by decide +kernel)
set_option maxRecDepth 100000 in
theorem lk_L_101 : LK RL 101 yX11_longest := gb_in (by decide +kernel) (by decide +kernel)
set_option maxRecDepth 100000 in
theorem lk_L_102 : LK RL 102 yX10_farthest := gb_in (by decide +kernel) (by decide +kernel)
set_option maxRecDepth 100000 in
theorem lk_L_105 : LK RL 105 yX11_farthest := gb_in (by decide +kernel) (by decide +kernel)
set_option maxRecDepth 100000 in
theorem lk_L_106 : LK RL 106 yX10_lifts := gb_in (by decide +kernel) (by decide +kernel)
set_option maxRecDepth 100000 in
theorem lk_L_109 : LK RL 109 yX11_lifts := gb_in (by decide +kernel) (by decide +kernel)
set_option maxRecDepth 100000 in
theorem lk_L_110 : LK RL 110 yX10_rides := gb_in (by decide +kernel) (by decide +kernel)
set_option maxRecDepth 100000 in
theorem lk_L_113 : LK RL 113 yX11_rides := gb_in (by decide +kernel) (by decide +kernel)
set_option maxRecDepth 100000 in
theorem lk_L_114 : LK RL 114 yX10_would := gb_in (by decide +kernel) (by decide +kernel)
set_option maxRecDepth 100000 in
theorem lk_L_118 : LK RL 118 yX11_would := gb_in (by decide +kernel) (by decide +kernel)
set_option maxRecDepth 100000 in
theorem lk_L_119 : LK RL 119 yX10_worst := gb_in (by decide +kernel) (by decide +kernel)
set_option maxRecDepth 100000 in
theorem lk_L_122 : LK RL 122 yX11_worst := gb_in (by decide +kernel) (by decide +kernel)
set_option maxRecDepth 100000 in
theorem lk_L_123 : LK RL 123 yX10_nearest := gb_in (by decide +kernel) (by decide +kernel)
set_option maxRecDepth 100000 in
theorem lk_L_126 : LK RL 126 yX11_nearest := gb_in (by decide +kernel) (by decide +kernel)
set_option maxRecDepth 100000 in
theorem lk_L_127 : LK RL 127 yX10_enough := gb_in (by decide +kernel) (by decide +kernel)
set_option maxRecDepth 100000 in
theorem lk_L_130 : LK RL 130 yX11_enough := gb_in (by decide +kernel) (by decide +kernel)
set_option maxRecDepth 100000 in
theorem lk_L_131 : LK RL 131 yX10_add := gb_in (by decide +kernel) (by decide +kernel)
set_option maxRecDepth 100000 in
theorem lk_L_134 : LK RL 134 yX11_add := gb_in (by decide +kernel) (by decide +kernel)
set_option maxRecDepth 100000 in
theorem lk_L_135 : LK RL 135 yX10_drop := gb_in (by decide +kernel) (by decide +kernel)
set_option maxRecDepth 100000 in
theorem lk_L_138 : LK RL 138 yX11_drop := gb_in (by decide +kernel) (by decide +kernel)
set_option maxRecDepth 100000 in
theorem lk_L_139 : LK RL 139 yX10_home := gb_in (by decide +kernel) (by decide +kernel)
set_option maxRecDepth 100000 in
theorem lk_L_142 : LK RL 142 yX11_home := gb_in (by decide +kernel) (by decide +kernel)
set_option maxRecDepth 100000 in
theorem lk_L_143 : LK RL 143 yX10_join := gb_in (by decide +kernel) (by decide +kernel)
set_option maxRecDepth 100000 in
theorem lk_L_146 : LK RL 146 yX11_join := gb_in (by decide +kernel) (by decide +kernel)
set_option maxRecDepth 100000 in
theorem lk_L_147 : LK RL 147 yX10_pace := gb_in (by decide +kernel) (by decide +kernel)
set_option maxRecDepth 100000 in
theorem lk_L_150 : LK RL 150 yX11_pace := gb_in (by decide +kernel) (by decide +kernel)
set_option maxRecDepth 100000 in
theorem lk_L_151 : LK RL 151 yX10_exchange := gb_in (by decide +kernel) (by decide +kernel)
set_option maxRecDepth 100000 in
theorem lk_L_154 : LK RL 154 yX11_exchange := gb_in (by decide +kernel) (by decide +kernel)
set_option maxRecDepth 100000 in
theorem lk_L_155 : LK RL 155 yX10_improve := gb_in (by decide +kernel) (by decide +kernel)
set_option maxRecDepth 100000 in
theorem lk_L_158 : LK RL 158 yX11_improve := gb_in (by decide +kernel) (by decide +kernel)
set_option maxRecDepth 100000 in
theorem lk_L_159 : LK RL 159 yX10_undo := gb_in (by decide +kernel) (by decide +kernel)
set_option maxRecDepth 100000 in
theorem lk_L_163 : LK RL 163 yX11_undo := gb_in (by decide +kernel) (by decide +kernel)
set_option maxRecDepth 100000 in
theorem lk_L_164 : LK RL 164 yL_loose := gb_in (by decide +kernel) (by decide +kernel)
set_option maxRecDepth 100000 in
theorem lk_L_169 : LK RL 169 yX11_loose := gb_in (by decide +kernel) (by decide +kernel)
set_option maxRecDepth 100000 in
theorem lk_L_170 : LK RL 170 yX11_thrown := gb_in (by decide +kernel) (by decide +kernel)
set_option maxRecDepth 100000 in
theorem lk_L_173 : LK RL 173 yX10_size := gb_in (by decide +kernel) (by decide +kernel)
set_option maxRecDepth 100000 in
theorem lk_L_176 : LK RL 176 yX11_size := gb_in (by decide +kernel) (by decide +kernel)
set_option maxRecDepth 100000 in
theorem lk_L_177 : LK RL 177 yX10_trouble := gb_in (by decide +kernel) (by decide +kernel)
set_option maxRecDepth 100000 in
theorem lk_L_180 : LK RL 180 yX11_trouble := gb_in (by decide +kernel) (by decide +kernel)
set_option maxRecDepth 100000 in
theorem lk_J0_335 : LK RJ0 335 yJ0_coder_7d493 := gb_in (by decide +kernel) (by decide +kernel)
set_option maxRecDepth 100000 in
theorem lk_J0_492 : LK RJ0 492 yJ0_isLatin1_aae02 := gb_in (by decide +kernel) (by decide +kernel)
set_option maxRecDepth 100000 in
theorem lk_J0_495 : LK RJ0 495 yJ1_charAt_3b067 := gb_in (by decide +kernel) (by decide +kernel)
set_option maxRecDepth 100000 in
theorem lk_J0_1059 : LK RJ0 1059 yJ3_checkIndex_8e157 := gb_in (by decide +kernel) (by decide +kernel)
set_option maxRecDepth 100000 in
theorem lk_J1_9 : LK RJ1 9 yJ0_checkIndex_df160 := gb_in (by decide +kernel) (by decide +kernel)
set_option maxRecDepth 100000 in
theorem mo_J0_charAt_5068e : MO mJ0_charAt_5068e 1 := ⟨gb_in (List.mem_of_getElem? (i := 651) (by rfl)) (by decide +kernel), gb_in (by decide +kernel) (by decide +kernel), by decide +kernel, by decide +kernel, by decide +kernel⟩
set_option maxRecDepth 100000 in
theorem mo_J0_checkIndex_df160 : MO mJ0_checkIndex_df160 2 := ⟨gb_in (List.mem_of_getElem? (i := 661) (by rfl)) (by decide +kernel), gb_in (by decide +kernel) (by decide +kernel), by decide +kernel, by decide +kernel, by decide +kernel⟩
set_option maxRecDepth 100000 in
theorem ms_J0_checkIndex_df160 : MS mJ0_checkIndex_df160 2 := ⟨mo_J0_checkIndex_df160, gb_in (by decide +kernel) (by decide +kernel)⟩
set_option maxRecDepth 100000 in
theorem mo_J0_coder_7d493 : MO mJ0_coder_7d493 0 := ⟨gb_in (List.mem_of_getElem? (i := 645) (by rfl)) (by decide +kernel), gb_in (by decide +kernel) (by decide +kernel), by decide +kernel, by decide +kernel, by decide +kernel⟩
set_option maxRecDepth 100000 in
theorem mo_J0_isLatin1_aae02 : MO mJ0_isLatin1_aae02 0 := ⟨gb_in (List.mem_of_getElem? (i := 655) (by rfl)) (by decide +kernel), gb_in (by decide +kernel) (by decide +kernel), by decide +kernel, by decide +kernel, by decide +kernel⟩
set_option maxRecDepth 100000 in
theorem mo_J0_length_8abf5 : MO mJ0_length_8abf5 0 := ⟨gb_in (List.mem_of_getElem? (i := 641) (by rfl)) (by decide +kernel), gb_in (by decide +kernel) (by decide +kernel), by decide +kernel, by decide +kernel, by decide +kernel⟩
set_option maxRecDepth 100000 in
theorem mo_J1_charAt_3b067 : MO mJ1_charAt_3b067 2 := ⟨gb_in (List.mem_of_getElem? (i := 658) (by rfl)) (by decide +kernel), gb_in (by decide +kernel) (by decide +kernel), by decide +kernel, by decide +kernel, by decide +kernel⟩
set_option maxRecDepth 100000 in
theorem ms_J1_charAt_3b067 : MS mJ1_charAt_3b067 2 := ⟨mo_J1_charAt_3b067, gb_in (by decide +kernel) (by decide +kernel)⟩
set_option maxRecDepth 100000 in
theorem mo_J3_checkIndex_8e157 : MO mJ3_checkIndex_8e157 3 := ⟨gb_in (List.mem_of_getElem? (i := 666) (by rfl)) (by decide +kernel), gb_in (by decide +kernel) (by decide +kernel), by decide +kernel, by decide +kernel, by decide +kernel⟩
