set_option maxRecDepth 100000 in
theorem mo_X11_readPace : MO mX11_readPace 0 := ⟨gb_in (List.mem_of_getElem? (i := 1631) (by rfl)) (by decide +kernel), gb_in (by decide +kernel) (by decide +kernel), by decide +kernel, by decide +kernel, by decide +kernel⟩
set_option maxRecDepth 100000 in
theorem mv_X11_readPace : MV mX11_readPace 0 11 := ⟨mo_X11_readPace, gb_in (by decide +kernel) (by decide +kernel), gb_in (by decide +kernel) (by decide +kernel), _, rfl, rfl⟩
set_option maxRecDepth 100000 in
theorem mo_X11_readSheet : MO mX11_readSheet 0 := ⟨gb_in (List.mem_of_getElem? (i := 1602) (by rfl)) (by decide +kernel), gb_in (by decide +kernel) (by decide +kernel), by decide +kernel, by decide +kernel, by decide +kernel⟩
set_option maxRecDepth 100000 in
theorem mv_X11_readSheet : MV mX11_readSheet 0 11 := ⟨mo_X11_readSheet, gb_in (by decide +kernel) (by decide +kernel), gb_in (by decide +kernel) (by decide +kernel), _, rfl, rfl⟩
set_option maxRecDepth 100000 in
theorem mo_X11_readStroke : MO mX11_readStroke 0 := ⟨gb_in (List.mem_of_getElem? (i := 1621) (by rfl)) (by decide +kernel), gb_in (by decide +kernel) (by decide +kernel), by decide +kernel, by decide +kernel, by decide +kernel⟩
set_option maxRecDepth 100000 in
theorem mv_X11_readStroke : MV mX11_readStroke 0 11 := ⟨mo_X11_readStroke, gb_in (by decide +kernel) (by decide +kernel), gb_in (by decide +kernel) (by decide +kernel), _, rfl, rfl⟩
set_option maxRecDepth 100000 in
theorem mo_X11_reckons : MO mX11_reckons 0 := ⟨gb_in (List.mem_of_getElem? (i := 1646) (by rfl)) (by decide +kernel), gb_in (by decide +kernel) (by decide +kernel), by decide +kernel, by decide +kernel, by decide +kernel⟩
set_option maxRecDepth 100000 in
theorem mv_X11_reckons : MV mX11_reckons 0 11 := ⟨mo_X11_reckons, gb_in (by decide +kernel) (by decide +kernel), gb_in (by decide +kernel) (by decide +kernel), _, rfl, rfl⟩
set_option maxRecDepth 100000 in
theorem mo_X11_ride : MO mX11_ride 2 := ⟨gb_in (List.mem_of_getElem? (i := 1807) (by rfl)) (by decide +kernel), gb_in (by decide +kernel) (by decide +kernel), by decide +kernel, by decide +kernel, by decide +kernel⟩
set_option maxRecDepth 100000 in
theorem mv_X11_ride : MV mX11_ride 2 11 := ⟨mo_X11_ride, gb_in (by decide +kernel) (by decide +kernel), gb_in (by decide +kernel) (by decide +kernel), _, rfl, rfl⟩
set_option maxRecDepth 100000 in
theorem mo_X11_rideAt : MO mX11_rideAt 2 := ⟨gb_in (List.mem_of_getElem? (i := 1811) (by rfl)) (by decide +kernel), gb_in (by decide +kernel) (by decide +kernel), by decide +kernel, by decide +kernel, by decide +kernel⟩
set_option maxRecDepth 100000 in
theorem mv_X11_rideAt : MV mX11_rideAt 2 11 := ⟨mo_X11_rideAt, gb_in (by decide +kernel) (by decide +kernel), gb_in (by decide +kernel) (by decide +kernel), _, rfl, rfl⟩
set_option maxRecDepth 100000 in
theorem mo_X11_rides : MO mX11_rides 1 := ⟨gb_in (List.mem_of_getElem? (i := 1827) (by rfl)) (by decide +kernel), gb_in (by decide +kernel) (by decide +kernel), by decide +kernel, by decide +kernel, by decide +kernel⟩
set_option maxRecDepth 100000 in
theorem mv_X11_rides : MV mX11_rides 1 11 := ⟨mo_X11_rides, gb_in (by decide +kernel) (by decide +kernel), gb_in (by decide +kernel) (by decide +kernel), _, rfl, rfl⟩
set_option maxRecDepth 100000 in
theorem mo_X11_see : MO mX11_see 1 := ⟨gb_in (List.mem_of_getElem? (i := 1587) (by rfl)) (by decide +kernel), gb_in (by decide +kernel) (by decide +kernel), by decide +kernel, by decide +kernel, by decide +kernel⟩
set_option maxRecDepth 100000 in
theorem mv_X11_see : MV mX11_see 1 11 := ⟨mo_X11_see, gb_in (by decide +kernel) (by decide +kernel), gb_in (by decide +kernel) (by decide +kernel), _, rfl, rfl⟩
set_option maxRecDepth 100000 in
theorem mo_X11_sheet : MO mX11_sheet 1 := ⟨gb_in (List.mem_of_getElem? (i := 1568) (by rfl)) (by decide +kernel), gb_in (by decide +kernel) (by decide +kernel), by decide +kernel, by decide +kernel, by decide +kernel⟩
set_option maxRecDepth 100000 in
theorem mv_X11_sheet : MV mX11_sheet 1 11 := ⟨mo_X11_sheet, gb_in (by decide +kernel) (by decide +kernel), gb_in (by decide +kernel) (by decide +kernel), _, rfl, rfl⟩
set_option maxRecDepth 100000 in
theorem mo_X11_size : MO mX11_size 1 := ⟨gb_in (List.mem_of_getElem? (i := 1988) (by rfl)) (by decide +kernel), gb_in (by decide +kernel) (by decide +kernel), by decide +kernel, by decide +kernel, by decide +kernel⟩
set_option maxRecDepth 100000 in
theorem mv_X11_size : MV mX11_size 1 11 := ⟨mo_X11_size, gb_in (by decide +kernel) (by decide +kernel), gb_in (by decide +kernel) (by decide +kernel), _, rfl, rfl⟩
set_option maxRecDepth 100000 in
theorem mo_X11_startAt : MO mX11_startAt 1 := ⟨gb_in (List.mem_of_getElem? (i := 1791) (by rfl)) (by decide +kernel), gb_in (by decide +kernel) (by decide +kernel), by decide +kernel, by decide +kernel, by decide +kernel⟩
set_option maxRecDepth 100000 in
theorem mv_X11_startAt : MV mX11_startAt 1 11 := ⟨mo_X11_startAt, gb_in (by decide +kernel) (by decide +kernel), gb_in (by decide +kernel) (by decide +kernel), _, rfl, rfl⟩
set_option maxRecDepth 100000 in
theorem mo_X11_started : MO mX11_started 0 := ⟨gb_in (List.mem_of_getElem? (i := 1839) (by rfl)) (by decide +kernel), gb_in (by decide +kernel) (by decide +kernel), by decide +kernel, by decide +kernel, by decide +kernel⟩
set_option maxRecDepth 100000 in
theorem mv_X11_started : MV mX11_started 0 11 := ⟨mo_X11_started, gb_in (by decide +kernel) (by decide +kernel), gb_in (by decide +kernel) (by decide +kernel), _, rfl, rfl⟩
set_option maxRecDepth 100000 in
theorem mo_X11_stroke : MO mX11_stroke 2 := ⟨gb_in (List.mem_of_getElem? (i := 1747) (by rfl)) (by decide +kernel), gb_in (by decide +kernel) (by decide +kernel), by decide +kernel, by decide +kernel, by decide +kernel⟩
set_option maxRecDepth 100000 in
theorem mv_X11_stroke : MV mX11_stroke 2 11 := ⟨mo_X11_stroke, gb_in (by decide +kernel) (by decide +kernel), gb_in (by decide +kernel) (by decide +kernel), _, rfl, rfl⟩
set_option maxRecDepth 100000 in
theorem mo_X11_strokeWhy : MO mX11_strokeWhy 4 := ⟨gb_in (List.mem_of_getElem? (i := 1913) (by rfl)) (by decide +kernel), gb_in (by decide +kernel) (by decide +kernel), by decide +kernel, by decide +kernel, by decide +kernel⟩
set_option maxRecDepth 100000 in
theorem mv_X11_strokeWhy : MV mX11_strokeWhy 4 11 := ⟨mo_X11_strokeWhy, gb_in (by decide +kernel) (by decide +kernel), gb_in (by decide +kernel) (by decide +kernel), _, rfl, rfl⟩
set_option maxRecDepth 100000 in
theorem mo_X11_strokesOf : MO mX11_strokesOf 1 := ⟨gb_in (List.mem_of_getElem? (i := 1763) (by rfl)) (by decide +kernel), gb_in (by decide +kernel) (by decide +kernel), by decide +kernel, by decide +kernel, by decide +kernel⟩
set_option maxRecDepth 100000 in
theorem mv_X11_strokesOf : MV mX11_strokesOf 1 11 := ⟨mo_X11_strokesOf, gb_in (by decide +kernel) (by decide +kernel), gb_in (by decide +kernel) (by decide +kernel), _, rfl, rfl⟩
set_option maxRecDepth 100000 in
theorem mo_X11_takesBack : MO mX11_takesBack 0 := ⟨gb_in (List.mem_of_getElem? (i := 1847) (by rfl)) (by decide +kernel), gb_in (by decide +kernel) (by decide +kernel), by decide +kernel, by decide +kernel, by decide +kernel⟩
set_option maxRecDepth 100000 in
theorem mv_X11_takesBack : MV mX11_takesBack 0 11 := ⟨mo_X11_takesBack, gb_in (by decide +kernel) (by decide +kernel), gb_in (by decide +kernel) (by decide +kernel), _, rfl, rfl⟩
set_option maxRecDepth 100000 in
theorem mo_X11_thrown : MO mX11_thrown 0 := ⟨gb_in (List.mem_of_getElem? (i := 1556) (by rfl)) (by decide +kernel), gb_in (by decide +kernel) (by decide +kernel), by decide +kernel, by decide +kernel, by decide +kernel⟩
set_option maxRecDepth 100000 in
theorem mv_X11_thrown : MV mX11_thrown 0 11 := ⟨mo_X11_thrown, gb_in (by decide +kernel) (by decide +kernel), gb_in (by decide +kernel) (by decide +kernel), _, rfl, rfl⟩
set_option maxRecDepth 100000 in
theorem mo_X11_time : MO mX11_time 0 := ⟨gb_in (List.mem_of_getElem? (i := 1884) (by rfl)) (by decide +kernel), gb_in (by decide +kernel) (by decide +kernel), by decide +kernel, by decide +kernel, by decide +kernel⟩
set_option maxRecDepth 100000 in
theorem mv_X11_time : MV mX11_time 0 11 := ⟨mo_X11_time, gb_in (by decide +kernel) (by decide +kernel), gb_in (by decide +kernel) (by decide +kernel), _, rfl, rfl⟩
set_option maxRecDepth 100000 in
theorem mo_X11_trail : MO mX11_trail 2 := ⟨gb_in (List.mem_of_getElem? (i := 1783) (by rfl)) (by decide +kernel), gb_in (by decide +kernel) (by decide +kernel), by decide +kernel, by decide +kernel, by decide +kernel⟩
set_option maxRecDepth 100000 in
theorem mv_X11_trail : MV mX11_trail 2 11 := ⟨mo_X11_trail, gb_in (by decide +kernel) (by decide +kernel), gb_in (by decide +kernel) (by decide +kernel), _, rfl, rfl⟩
set_option maxRecDepth 100000 in
theorem mo_X11_trailsBy : MO mX11_trailsBy 1 := ⟨gb_in (List.mem_of_getElem? (i := 1937) (by rfl)) (by decide +kernel), gb_in (by decide +kernel) (by decide +kernel), by decide +kernel, by decide +kernel, by decide +kernel⟩
set_option maxRecDepth 100000 in
theorem mv_X11_trailsBy : MV mX11_trailsBy 1 11 := ⟨mo_X11_trailsBy, gb_in (by decide +kernel) (by decide +kernel), gb_in (by decide +kernel) (by decide +kernel), _, rfl, rfl⟩
set_option maxRecDepth 100000 in
theorem mo_X11_trailsOf : MO mX11_trailsOf 1 := ⟨gb_in (List.mem_of_getElem? (i := 1767) (by rfl)) (by decide +kernel), gb_in (by decide +kernel) (by decide +kernel), by decide +kernel, by decide +kernel, by decide +kernel⟩
set_option maxRecDepth 100000 in
theorem mv_X11_trailsOf : MV mX11_trailsOf 1 11 := ⟨mo_X11_trailsOf, gb_in (by decide +kernel) (by decide +kernel), gb_in (by decide +kernel) (by decide +kernel), _, rfl, rfl⟩
set_option maxRecDepth 100000 in
theorem mo_X11_travel : MO mX11_travel 0 := ⟨gb_in (List.mem_of_getElem? (i := 1831) (by rfl)) (by decide +kernel), gb_in (by decide +kernel) (by decide +kernel), by decide +kernel, by decide +kernel, by decide +kernel⟩
set_option maxRecDepth 100000 in
theorem mv_X11_travel : MV mX11_travel 0 11 := ⟨mo_X11_travel, gb_in (by decide +kernel) (by decide +kernel), gb_in (by decide +kernel) (by decide +kernel), _, rfl, rfl⟩
set_option maxRecDepth 100000 in
theorem mo_X11_trouble : MO mX11_trouble 0 := ⟨gb_in (List.mem_of_getElem? (i := 1992) (by rfl)) (by decide +kernel), gb_in (by decide +kernel) (by decide +kernel), by decide +kernel, by decide +kernel, by decide +kernel⟩
set_option maxRecDepth 100000 in
theorem mv_X11_trouble : MV mX11_trouble 0 11 := ⟨mo_X11_trouble, gb_in (by decide +kernel) (by decide +kernel), gb_in (by decide +kernel) (by decide +kernel), _, rfl, rfl⟩
set_option maxRecDepth 100000 in
theorem mo_X11_undo : MO mX11_undo 0 := ⟨gb_in (List.mem_of_getElem? (i := 1980) (by rfl)) (by decide +kernel), gb_in (by decide +kernel) (by decide +kernel), by decide +kernel, by decide +kernel, by decide +kernel⟩
set_option maxRecDepth 100000 in
theorem mv_X11_undo : MV mX11_undo 0 11 := ⟨mo_X11_undo, gb_in (by decide +kernel) (by decide +kernel), gb_in (by decide +kernel) (by decide +kernel), _, rfl, rfl⟩
set_option maxRecDepth 100000 in
theorem mo_X11_unless : MO mX11_unless 1 := ⟨gb_in (List.mem_of_getElem? (i := 1739) (by rfl)) (by decide +kernel), gb_in (by decide +kernel) (by decide +kernel), by decide +kernel, by decide +kernel, by decide +kernel⟩
set_option maxRecDepth 100000 in
theorem ms_X11_unless : MS mX11_unless 1 := ⟨mo_X11_unless, gb_in (by decide +kernel) (by decide +kernel)⟩
set_option maxRecDepth 100000 in
theorem mo_X11_unless_ : MO mX11_unless_ 2 := ⟨gb_in (List.mem_of_getElem? (i := 1944) (by rfl)) (by decide +kernel), gb_in (by decide +kernel) (by decide +kernel), by decide +kernel, by decide +kernel, by decide +kernel⟩
set_option maxRecDepth 100000 in
theorem ms_X11_unless_ : MS mX11_unless_ 2 := ⟨mo_X11_unless_, gb_in (by decide +kernel) (by decide +kernel)⟩
set_option maxRecDepth 100000 in
theorem mo_X11_walk : MO mX11_walk 2 := ⟨gb_in (List.mem_of_getElem? (i := 1779) (by rfl)) (by decide +kernel), gb_in (by decide +kernel) (by decide +kernel), by decide +kernel, by decide +kernel, by decide +kernel⟩
set_option maxRecDepth 100000 in
theorem mv_X11_walk : MV mX11_walk 2 11 := ⟨mo_X11_walk, gb_in (by decide +kernel) (by decide +kernel), gb_in (by decide +kernel) (by decide +kernel), _, rfl, rfl⟩
set_option maxRecDepth 100000 in
theorem mo_X11_walksPart : MO mX11_walksPart 1 := ⟨gb_in (List.mem_of_getElem? (i := 1704) (by rfl)) (by decide +kernel), gb_in (by decide +kernel) (by decide +kernel), by decide +kernel, by decide +kernel, by decide +kernel⟩
set_option maxRecDepth 100000 in
theorem mv_X11_walksPart : MV mX11_walksPart 1 11 := ⟨mo_X11_walksPart, gb_in (by decide +kernel) (by decide +kernel), gb_in (by decide +kernel) (by decide +kernel), _, rfl, rfl⟩
set_option maxRecDepth 100000 in
theorem mo_X11_where : MO mX11_where 0 := ⟨gb_in (List.mem_of_getElem? (i := 1728) (by rfl)) (by decide +kernel), gb_in (by decide +kernel) (by decide +kernel), by decide +kernel, by decide +kernel, by decide +kernel⟩
set_option maxRecDepth 100000 in
theorem mv_X11_where : MV mX11_where 0 11 := ⟨mo_X11_where, gb_in (by decide +kernel) (by decide +kernel), gb_in (by decide +kernel) (by decide +kernel), _, rfl, rfl⟩
set_option maxRecDepth 100000 in
theorem mo_X11_worst : MO mX11_worst 0 := ⟨gb_in (List.mem_of_getElem? (i := 1925) (by rfl)) (by decide +kernel), gb_in (by decide +kernel) (by decide +kernel), by decide +kernel, by decide +kernel, by decide +kernel⟩
set_option maxRecDepth 100000 in
theorem mv_X11_worst : MV mX11_worst 0 11 := ⟨mo_X11_worst, gb_in (by decide +kernel) (by decide +kernel), gb_in (by decide +kernel) (by decide +kernel), _, rfl, rfl⟩
set_option maxRecDepth 100000 in
theorem mo_X11_would : MO mX11_would 4 := ⟨gb_in (List.mem_of_getElem? (i := 1909) (by rfl)) (by decide +kernel), gb_in (by decide +kernel) (by decide +kernel), by decide +kernel, by decide +kernel, by decide +kernel⟩
set_option maxRecDepth 100000 in
theorem mv_X11_would : MV mX11_would 4 11 := ⟨mo_X11_would, gb_in (by decide +kernel) (by decide +kernel), gb_in (by decide +kernel) (by decide +kernel), _, rfl, rfl⟩
set_option maxRecDepth 100000 in
theorem mo_X1_begin : MO mX1_begin 1 := ⟨gb_in (List.mem_of_getElem? (i := 746) (by rfl)) (by decide +kernel), gb_in (by decide +kernel) (by decide +kernel), by decide +kernel, by decide +kernel, by decide +kernel⟩
set_option maxRecDepth 100000 in
theorem mv_X1_begin : MV mX1_begin 1 1 := ⟨mo_X1_begin, gb_in (by decide +kernel) (by decide +kernel), gb_in (by decide +kernel) (by decide +kernel), _, rfl, rfl⟩
set_option maxRecDepth 100000 in
theorem mo_X1_numberAll : MO mX1_numberAll 0 := ⟨gb_in (List.mem_of_getElem? (i := 765) (by rfl)) (by decide +kernel), gb_in (by decide +kernel) (by decide +kernel), by decide +kernel, by decide +kernel, by decide +kernel⟩
set_option maxRecDepth 100000 in
theorem mv_X1_numberAll : MV mX1_numberAll 0 1 := ⟨mo_X1_numberAll, gb_in (by decide +kernel) (by decide +kernel), gb_in (by decide +kernel) (by decide +kernel), _, rfl, rfl⟩
set_option maxRecDepth 100000 in
theorem mo_X1_tie : MO mX1_tie 2 := ⟨gb_in (List.mem_of_getElem? (i := 758) (by rfl)) (by decide +kernel), gb_in (by decide +kernel) (by decide +kernel), by decide +kernel, by decide +kernel, by decide +kernel⟩
set_option maxRecDepth 100000 in
theorem mv_X1_tie : MV mX1_tie 2 1 := ⟨mo_X1_tie, gb_in (by decide +kernel) (by decide +kernel), gb_in (by decide +kernel) (by decide +kernel), _, rfl, rfl⟩
set_option maxRecDepth 100000 in
theorem mo_X2_clear : MO mX2_clear 0 := ⟨gb_in (List.mem_of_getElem? (i := 730) (by rfl)) (by decide +kernel), gb_in (by decide +kernel) (by decide +kernel), by decide +kernel, by decide +kernel, by decide +kernel⟩
set_option maxRecDepth 100000 in
theorem mv_X2_clear : MV mX2_clear 0 2 := ⟨mo_X2_clear, gb_in (by decide +kernel) (by decide +kernel), gb_in (by decide +kernel) (by decide +kernel), _, rfl, rfl⟩
set_option maxRecDepth 100000 in
theorem mo_X2_keep : MO mX2_keep 2 := ⟨gb_in (List.mem_of_getElem? (i := 1258) (by rfl)) (by decide +kernel), gb_in (by decide +kernel) (by decide +kernel), by decide +kernel, by decide +kernel, by decide +kernel⟩
set_option maxRecDepth 100000 in
theorem mv_X2_keep : MV mX2_keep 2 2 := ⟨mo_X2_keep, gb_in (by decide +kernel) (by decide +kernel), gb_in (by decide +kernel) (by decide +kernel), _, rfl, rfl⟩
set_option maxRecDepth 100000 in
theorem mo_X2_takeBack : MO mX2_takeBack 2 := ⟨gb_in (List.mem_of_getElem? (i := 1298) (by rfl)) (by decide +kernel), gb_in (by decide +kernel) (by decide +kernel), by decide +kernel, by decide +kernel, by decide +kernel⟩
set_option maxRecDepth 100000 in
theorem mv_X2_takeBack : MV mX2_takeBack 2 2 := ⟨mo_X2_takeBack, gb_in (by decide +kernel) (by decide +kernel), gb_in (by decide +kernel) (by decide +kernel), _, rfl, rfl⟩
set_option maxRecDepth 100000 in
theorem mo_X3_apart : MO mX3_apart 2 := ⟨gb_in (List.mem_of_getElem? (i := 819) (by rfl)) (by decide +kernel), gb_in (by decide +kernel) (by decide +kernel), by decide +kernel, by decide +kernel, by decide +kernel⟩
set_option maxRecDepth 100000 in
theorem mv_X3_apart : MV mX3_apart 2 3 := ⟨mo_X3_apart, gb_in (by decide +kernel) (by decide +kernel), gb_in (by decide +kernel) (by decide +kernel), _, rfl, rfl⟩
set_option maxRecDepth 100000 in
theorem mo_X3_count : MO mX3_count 0 := ⟨gb_in (List.mem_of_getElem? (i := 805) (by rfl)) (by decide +kernel), gb_in (by decide +kernel) (by decide +kernel), by decide +kernel, by decide +kernel, by decide +kernel⟩
set_option maxRecDepth 100000 in
theorem mv_X3_count : MV mX3_count 0 3 := ⟨mo_X3_count, gb_in (by decide +kernel) (by decide +kernel), gb_in (by decide +kernel) (by decide +kernel), _, rfl, rfl⟩
set_option maxRecDepth 100000 in
theorem mo_X3_countEnds : MO mX3_countEnds 0 := ⟨gb_in (List.mem_of_getElem? (i := 777) (by rfl)) (by decide +kernel), gb_in (by decide +kernel) (by decide +kernel), by decide +kernel, by decide +kernel, by decide +kernel⟩
set_option maxRecDepth 100000 in
theorem mv_X3_countEnds : MV mX3_countEnds 0 3 := ⟨mo_X3_countEnds, gb_in (by decide +kernel) (by decide +kernel), gb_in (by decide +kernel) (by decide +kernel), _, rfl, rfl⟩
set_option maxRecDepth 100000 in
theorem mo_X3_countOdds : MO mX3_countOdds 0 := ⟨gb_in (List.mem_of_getElem? (i := 781) (by rfl)) (by decide +kernel), gb_in (by decide +kernel) (by decide +kernel), by decide +kernel, by decide +kernel, by decide +kernel⟩
set_option maxRecDepth 100000 in
theorem mv_X3_countOdds : MV mX3_countOdds 0 3 := ⟨mo_X3_countOdds, gb_in (by decide +kernel) (by decide +kernel), gb_in (by decide +kernel) (by decide +kernel), _, rfl, rfl⟩
set_option maxRecDepth 100000 in
theorem mo_X3_firstEnd : MO mX3_firstEnd 1 := ⟨gb_in (List.mem_of_getElem? (i := 995) (by rfl)) (by decide +kernel), gb_in (by decide +kernel) (by decide +kernel), by decide +kernel, by decide +kernel, by decide +kernel⟩
set_option maxRecDepth 100000 in
theorem mv_X3_firstEnd : MV mX3_firstEnd 1 3 := ⟨mo_X3_firstEnd, gb_in (by decide +kernel) (by decide +kernel), gb_in (by decide +kernel) (by decide +kernel), _, rfl, rfl⟩
set_option maxRecDepth 100000 in
theorem mo_X3_firstMeeting : MO mX3_firstMeeting 1 := ⟨gb_in (List.mem_of_getElem? (i := 883) (by rfl)) (by decide +kernel), gb_in (by decide +kernel) (by decide +kernel), by decide +kernel, by decide +kernel, by decide +kernel⟩
set_option maxRecDepth 100000 in
theorem mv_X3_firstMeeting : MV mX3_firstMeeting 1 3 := ⟨mo_X3_firstMeeting, gb_in (by decide +kernel) (by decide +kernel), gb_in (by decide +kernel) (by decide +kernel), _, rfl, rfl⟩
set_option maxRecDepth 100000 in
theorem mo_X3_gather : MO mX3_gather 1 := ⟨gb_in (List.mem_of_getElem? (i := 738) (by rfl)) (by decide +kernel), gb_in (by decide +kernel) (by decide +kernel), by decide +kernel, by decide +kernel, by decide +kernel⟩
set_option maxRecDepth 100000 in
theorem mv_X3_gather : MV mX3_gather 1 3 := ⟨mo_X3_gather, gb_in (by decide +kernel) (by decide +kernel), gb_in (by decide +kernel) (by decide +kernel), _, rfl, rfl⟩
set_option maxRecDepth 100000 in
theorem mo_X3_gatherEnds : MO mX3_gatherEnds 1 := ⟨gb_in (List.mem_of_getElem? (i := 742) (by rfl)) (by decide +kernel), gb_in (by decide +kernel) (by decide +kernel), by decide +kernel, by decide +kernel, by decide +kernel⟩
set_option maxRecDepth 100000 in
theorem mv_X3_gatherEnds : MV mX3_gatherEnds 1 3 := ⟨mo_X3_gatherEnds, gb_in (by decide +kernel) (by decide +kernel), gb_in (by decide +kernel) (by decide +kernel), _, rfl, rfl⟩
set_option maxRecDepth 100000 in
theorem mo_X3_gatherParts : MO mX3_gatherParts 0 := ⟨gb_in (List.mem_of_getElem? (i := 769) (by rfl)) (by decide +kernel), gb_in (by decide +kernel) (by decide +kernel), by decide +kernel, by decide +kernel, by decide +kernel⟩
set_option maxRecDepth 100000 in
theorem mv_X3_gatherParts : MV mX3_gatherParts 0 3 := ⟨mo_X3_gatherParts, gb_in (by decide +kernel) (by decide +kernel), gb_in (by decide +kernel) (by decide +kernel), _, rfl, rfl⟩
set_option maxRecDepth 100000 in
theorem mo_X3_isOdd : MO mX3_isOdd 1 := ⟨gb_in (List.mem_of_getElem? (i := 785) (by rfl)) (by decide +kernel), gb_in (by decide +kernel) (by decide +kernel), by decide +kernel, by decide +kernel, by decide +kernel⟩
set_option maxRecDepth 100000 in
theorem mv_X3_isOdd : MV mX3_isOdd 1 3 := ⟨mo_X3_isOdd, gb_in (by decide +kernel) (by decide +kernel), gb_in (by decide +kernel) (by decide +kernel), _, rfl, rfl⟩
set_option maxRecDepth 100000 in
theorem mo_X3_looseOne : MO mX3_looseOne 1 := ⟨gb_in (List.mem_of_getElem? (i := 1318) (by rfl)) (by decide +kernel), gb_in (by decide +kernel) (by decide +kernel), by decide +kernel, by decide +kernel, by decide +kernel⟩
set_option maxRecDepth 100000 in
theorem mv_X3_looseOne : MV mX3_looseOne 1 3 := ⟨mo_X3_looseOne, gb_in (by decide +kernel) (by decide +kernel), gb_in (by decide +kernel) (by decide +kernel), _, rfl, rfl⟩
set_option maxRecDepth 100000 in
theorem mo_X3_meetingsIn : MO mX3_meetingsIn 1 := ⟨gb_in (List.mem_of_getElem? (i := 1007) (by rfl)) (by decide +kernel), gb_in (by decide +kernel) (by decide +kernel), by decide +kernel, by decide +kernel, by decide +kernel⟩
set_option maxRecDepth 100000 in
theorem mv_X3_meetingsIn : MV mX3_meetingsIn 1 3 := ⟨mo_X3_meetingsIn, gb_in (by decide +kernel) (by decide +kernel), gb_in (by decide +kernel) (by decide +kernel), _, rfl, rfl⟩
set_option maxRecDepth 100000 in
theorem mo_X3_odds : MO mX3_odds 0 := ⟨gb_in (List.mem_of_getElem? (i := 974) (by rfl)) (by decide +kernel), gb_in (by decide +kernel) (by decide +kernel), by decide +kernel, by decide +kernel, by decide +kernel⟩
set_option maxRecDepth 100000 in
theorem mv_X3_odds : MV mX3_odds 0 3 := ⟨mo_X3_odds, gb_in (by decide +kernel) (by decide +kernel), gb_in (by decide +kernel) (by decide +kernel), _, rfl, rfl⟩
set_option maxRecDepth 100000 in
theorem mo_X3_of : MO mX3_of 1 := ⟨gb_in (List.mem_of_getElem? (i := 773) (by rfl)) (by decide +kernel), gb_in (by decide +kernel) (by decide +kernel), by decide +kernel, by decide +kernel, by decide +kernel⟩
set_option maxRecDepth 100000 in
theorem mv_X3_of : MV mX3_of 1 3 := ⟨mo_X3_of, gb_in (by decide +kernel) (by decide +kernel), gb_in (by decide +kernel) (by decide +kernel), _, rfl, rfl⟩
set_option maxRecDepth 100000 in
theorem mo_X3_partOf : MO mX3_partOf 1 := ⟨gb_in (List.mem_of_getElem? (i := 789) (by rfl)) (by decide +kernel), gb_in (by decide +kernel) (by decide +kernel), by decide +kernel, by decide +kernel, by decide +kernel⟩
set_option maxRecDepth 100000 in
theorem mv_X3_partOf : MV mX3_partOf 1 3 := ⟨mo_X3_partOf, gb_in (by decide +kernel) (by decide +kernel), gb_in (by decide +kernel) (by decide +kernel), _, rfl, rfl⟩
set_option maxRecDepth 100000 in
theorem mo_X3_parts : MO mX3_parts 0 := ⟨gb_in (List.mem_of_getElem? (i := 797) (by rfl)) (by decide +kernel), gb_in (by decide +kernel) (by decide +kernel), by decide +kernel, by decide +kernel, by decide +kernel⟩
set_option maxRecDepth 100000 in
theorem mv_X3_parts : MV mX3_parts 0 3 := ⟨mo_X3_parts, gb_in (by decide +kernel) (by decide +kernel), gb_in (by decide +kernel) (by decide +kernel), _, rfl, rfl⟩
set_option maxRecDepth 100000 in
theorem mo_X3_strokesIn : MO mX3_strokesIn 1 := ⟨gb_in (List.mem_of_getElem? (i := 1011) (by rfl)) (by decide +kernel), gb_in (by decide +kernel) (by decide +kernel), by decide +kernel, by decide +kernel, by decide +kernel⟩
set_option maxRecDepth 100000 in
theorem mv_X3_strokesIn : MV mX3_strokesIn 1 3 := ⟨mo_X3_strokesIn, gb_in (by decide +kernel) (by decide +kernel), gb_in (by decide +kernel) (by decide +kernel), _, rfl, rfl⟩
set_option maxRecDepth 100000 in
theorem mo_X3_tieNearTo : MO mX3_tieNearTo 3 := ⟨gb_in (List.mem_of_getElem? (i := 751) (by rfl)) (by decide +kernel), gb_in (by decide +kernel) (by decide +kernel), by decide +kernel, by decide +kernel, by decide +kernel⟩
set_option maxRecDepth 100000 in
theorem mv_X3_tieNearTo : MV mX3_tieNearTo 3 3 := ⟨mo_X3_tieNearTo, gb_in (by decide +kernel) (by decide +kernel), gb_in (by decide +kernel) (by decide +kernel), _, rfl, rfl⟩
set_option maxRecDepth 100000 in
theorem mo_X3_trailsIn : MO mX3_trailsIn 1 := ⟨gb_in (List.mem_of_getElem? (i := 1015) (by rfl)) (by decide +kernel), gb_in (by decide +kernel) (by decide +kernel), by decide +kernel, by decide +kernel, by decide +kernel⟩
set_option maxRecDepth 100000 in
theorem mv_X3_trailsIn : MV mX3_trailsIn 1 3 := ⟨mo_X3_trailsIn, gb_in (by decide +kernel) (by decide +kernel), gb_in (by decide +kernel) (by decide +kernel), _, rfl, rfl⟩
set_option maxRecDepth 100000 in
theorem mo_X3_trailsInAll : MO mX3_trailsInAll 0 := ⟨gb_in (List.mem_of_getElem? (i := 1229) (by rfl)) (by decide +kernel), gb_in (by decide +kernel) (by decide +kernel), by decide +kernel, by decide +kernel, by decide +kernel⟩
set_option maxRecDepth 100000 in
theorem mv_X3_trailsInAll : MV mX3_trailsInAll 0 3 := ⟨mo_X3_trailsInAll, gb_in (by decide +kernel) (by decide +kernel), gb_in (by decide +kernel) (by decide +kernel), _, rfl, rfl⟩
set_option maxRecDepth 100000 in
theorem mo_X3_xOf : MO mX3_xOf 1 := ⟨gb_in (List.mem_of_getElem? (i := 823) (by rfl)) (by decide +kernel), gb_in (by decide +kernel) (by decide +kernel), by decide +kernel, by decide +kernel, by decide +kernel⟩
set_option maxRecDepth 100000 in
theorem mv_X3_xOf : MV mX3_xOf 1 3 := ⟨mo_X3_xOf, gb_in (by decide +kernel) (by decide +kernel), gb_in (by decide +kernel) (by decide +kernel), _, rfl, rfl⟩
set_option maxRecDepth 100000 in
theorem mo_X3_yOf : MO mX3_yOf 1 := ⟨gb_in (List.mem_of_getElem? (i := 827) (by rfl)) (by decide +kernel), gb_in (by decide +kernel) (by decide +kernel), by decide +kernel, by decide +kernel, by decide +kernel⟩
set_option maxRecDepth 100000 in
theorem mv_X3_yOf : MV mX3_yOf 1 3 := ⟨mo_X3_yOf, gb_in (by decide +kernel) (by decide +kernel), gb_in (by decide +kernel) (by decide +kernel), _, rfl, rfl⟩
set_option maxRecDepth 100000 in
theorem mo_X4_behindLastIn : MO mX4_behindLastIn 1 := ⟨gb_in (List.mem_of_getElem? (i := 900) (by rfl)) (by decide +kernel), gb_in (by decide +kernel) (by decide +kernel), by decide +kernel, by decide +kernel, by decide +kernel⟩
set_option maxRecDepth 100000 in
theorem mv_X4_behindLastIn : MV mX4_behindLastIn 1 4 := ⟨mo_X4_behindLastIn, gb_in (by decide +kernel) (by decide +kernel), gb_in (by decide +kernel) (by decide +kernel), _, rfl, rfl⟩
set_option maxRecDepth 100000 in
theorem mo_X4_bestPartner : MO mX4_bestPartner 2 := ⟨gb_in (List.mem_of_getElem? (i := 858) (by rfl)) (by decide +kernel), gb_in (by decide +kernel) (by decide +kernel), by decide +kernel, by decide +kernel, by decide +kernel⟩
set_option maxRecDepth 100000 in
theorem mv_X4_bestPartner : MV mX4_bestPartner 2 4 := ⟨mo_X4_bestPartner, gb_in (by decide +kernel) (by decide +kernel), gb_in (by decide +kernel) (by decide +kernel), _, rfl, rfl⟩
set_option maxRecDepth 100000 in
theorem mo_X4_clearSets : MO mX4_clearSets 0 := ⟨gb_in (List.mem_of_getElem? (i := 862) (by rfl)) (by decide +kernel), gb_in (by decide +kernel) (by decide +kernel), by decide +kernel, by decide +kernel, by decide +kernel⟩
set_option maxRecDepth 100000 in
theorem mv_X4_clearSets : MV mX4_clearSets 0 4 := ⟨mo_X4_clearSets, gb_in (by decide +kernel) (by decide +kernel), gb_in (by decide +kernel) (by decide +kernel), _, rfl, rfl⟩
set_option maxRecDepth 100000 in
theorem mo_X4_cutOf : MO mX4_cutOf 1 := ⟨gb_in (List.mem_of_getElem? (i := 879) (by rfl)) (by decide +kernel), gb_in (by decide +kernel) (by decide +kernel), by decide +kernel, by decide +kernel, by decide +kernel⟩
set_option maxRecDepth 100000 in
theorem mv_X4_cutOf : MV mX4_cutOf 1 4 := ⟨mo_X4_cutOf, gb_in (by decide +kernel) (by decide +kernel), gb_in (by decide +kernel) (by decide +kernel), _, rfl, rfl⟩
set_option maxRecDepth 100000 in
theorem mo_X4_fillLeast : MO mX4_fillLeast 0 := ⟨gb_in (List.mem_of_getElem? (i := 854) (by rfl)) (by decide +kernel), gb_in (by decide +kernel) (by decide +kernel), by decide +kernel, by decide +kernel, by decide +kernel⟩
set_option maxRecDepth 100000 in
theorem mv_X4_fillLeast : MV mX4_fillLeast 0 4 := ⟨mo_X4_fillLeast, gb_in (by decide +kernel) (by decide +kernel), gb_in (by decide +kernel) (by decide +kernel), _, rfl, rfl⟩
set_option maxRecDepth 100000 in
theorem mo_X4_firstFree : MO mX4_firstFree 1 := ⟨gb_in (List.mem_of_getElem? (i := 843) (by rfl)) (by decide +kernel), gb_in (by decide +kernel) (by decide +kernel), by decide +kernel, by decide +kernel, by decide +kernel⟩
set_option maxRecDepth 100000 in
theorem mv_X4_firstFree : MV mX4_firstFree 1 4 := ⟨mo_X4_firstFree, gb_in (by decide +kernel) (by decide +kernel), gb_in (by decide +kernel) (by decide +kernel), _, rfl, rfl⟩
set_option maxRecDepth 100000 in
theorem mo_X4_firstIn : MO mX4_firstIn 1 := ⟨gb_in (List.mem_of_getElem? (i := 896) (by rfl)) (by decide +kernel), gb_in (by decide +kernel) (by decide +kernel), by decide +kernel, by decide +kernel, by decide +kernel⟩
set_option maxRecDepth 100000 in
theorem mv_X4_firstIn : MV mX4_firstIn 1 4 := ⟨mo_X4_firstIn, gb_in (by decide +kernel) (by decide +kernel), gb_in (by decide +kernel) (by decide +kernel), _, rfl, rfl⟩
set_option maxRecDepth 100000 in
theorem mo_X4_gapsIn : MO mX4_gapsIn 1 := ⟨gb_in (List.mem_of_getElem? (i := 1021) (by rfl)) (by decide +kernel), gb_in (by decide +kernel) (by decide +kernel), by decide +kernel, by decide +kernel, by decide +kernel⟩
set_option maxRecDepth 100000 in
theorem mv_X4_gapsIn : MV mX4_gapsIn 1 4 := ⟨mo_X4_gapsIn, gb_in (by decide +kernel) (by decide +kernel), gb_in (by decide +kernel) (by decide +kernel), _, rfl, rfl⟩
set_option maxRecDepth 100000 in
theorem mo_X4_gather : MO mX4_gather 0 := ⟨gb_in (List.mem_of_getElem? (i := 793) (by rfl)) (by decide +kernel), gb_in (by decide +kernel) (by decide +kernel), by decide +kernel, by decide +kernel, by decide +kernel⟩
set_option maxRecDepth 100000 in
theorem mv_X4_gather : MV mX4_gather 0 4 := ⟨mo_X4_gather, gb_in (by decide +kernel) (by decide +kernel), gb_in (by decide +kernel) (by decide +kernel), _, rfl, rfl⟩
set_option maxRecDepth 100000 in
theorem mo_X4_listOdds : MO mX4_listOdds 1 := ⟨gb_in (List.mem_of_getElem? (i := 801) (by rfl)) (by decide +kernel), gb_in (by decide +kernel) (by decide +kernel), by decide +kernel, by decide +kernel, by decide +kernel⟩
set_option maxRecDepth 100000 in
theorem mv_X4_listOdds : MV mX4_listOdds 1 4 := ⟨mo_X4_listOdds, gb_in (by decide +kernel) (by decide +kernel), gb_in (by decide +kernel) (by decide +kernel), _, rfl, rfl⟩
set_option maxRecDepth 100000 in
theorem mo_X4_listSets : MO mX4_listSets 0 := ⟨gb_in (List.mem_of_getElem? (i := 839) (by rfl)) (by decide +kernel), gb_in (by decide +kernel) (by decide +kernel), by decide +kernel, by decide +kernel, by decide +kernel⟩
set_option maxRecDepth 100000 in
theorem mv_X4_listSets : MV mX4_listSets 0 4 := ⟨mo_X4_listSets, gb_in (by decide +kernel) (by decide +kernel), gb_in (by decide +kernel) (by decide +kernel), _, rfl, rfl⟩
set_option maxRecDepth 100000 in
theorem mo_X4_markCut : MO mX4_markCut 1 := ⟨gb_in (List.mem_of_getElem? (i := 866) (by rfl)) (by decide +kernel), gb_in (by decide +kernel) (by decide +kernel), by decide +kernel, by decide +kernel, by decide +kernel⟩
set_option maxRecDepth 100000 in
theorem mv_X4_markCut : MV mX4_markCut 1 4 := ⟨mo_X4_markCut, gb_in (by decide +kernel) (by decide +kernel), gb_in (by decide +kernel) (by decide +kernel), _, rfl, rfl⟩
set_option maxRecDepth 100000 in
theorem mo_X4_measureOdds : MO mX4_measureOdds 0 := ⟨gb_in (List.mem_of_getElem? (i := 835) (by rfl)) (by decide +kernel), gb_in (by decide +kernel) (by decide +kernel), by decide +kernel, by decide +kernel, by decide +kernel⟩
set_option maxRecDepth 100000 in
theorem mv_X4_measureOdds : MV mX4_measureOdds 0 4 := ⟨mo_X4_measureOdds, gb_in (by decide +kernel) (by decide +kernel), gb_in (by decide +kernel) (by decide +kernel), _, rfl, rfl⟩
set_option maxRecDepth 100000 in
theorem mo_X4_pairByLeast : MO mX4_pairByLeast 0 := ⟨gb_in (List.mem_of_getElem? (i := 831) (by rfl)) (by decide +kernel), gb_in (by decide +kernel) (by decide +kernel), by decide +kernel, by decide +kernel, by decide +kernel⟩
set_option maxRecDepth 100000 in
theorem mv_X4_pairByLeast : MV mX4_pairByLeast 0 4 := ⟨mo_X4_pairByLeast, gb_in (by decide +kernel) (by decide +kernel), gb_in (by decide +kernel) (by decide +kernel), _, rfl, rfl⟩
set_option maxRecDepth 100000 in
theorem mo_X4_pairNeighbours : MO mX4_pairNeighbours 0 := ⟨gb_in (List.mem_of_getElem? (i := 811) (by rfl)) (by decide +kernel), gb_in (by decide +kernel) (by decide +kernel), by decide +kernel, by decide +kernel, by decide +kernel⟩
set_option maxRecDepth 100000 in
theorem mv_X4_pairNeighbours : MV mX4_pairNeighbours 0 4 := ⟨mo_X4_pairNeighbours, gb_in (by decide +kernel) (by decide +kernel), gb_in (by decide +kernel) (by decide +kernel), _, rfl, rfl⟩
set_option maxRecDepth 100000 in
theorem mo_X4_putPair : MO mX4_putPair 2 := ⟨gb_in (List.mem_of_getElem? (i := 815) (by rfl)) (by decide +kernel), gb_in (by decide +kernel) (by decide +kernel), by decide +kernel, by decide +kernel, by decide +kernel⟩
set_option maxRecDepth 100000 in
theorem mv_X4_putPair : MV mX4_putPair 2 4 := ⟨mo_X4_putPair, gb_in (by decide +kernel) (by decide +kernel), gb_in (by decide +kernel) (by decide +kernel), _, rfl, rfl⟩
set_option maxRecDepth 100000 in
theorem mo_X4_putSet : MO mX4_putSet 1 := ⟨gb_in (List.mem_of_getElem? (i := 847) (by rfl)) (by decide +kernel), gb_in (by decide +kernel) (by decide +kernel), by decide +kernel, by decide +kernel, by decide +kernel⟩
set_option maxRecDepth 100000 in
theorem mv_X4_putSet : MV mX4_putSet 1 4 := ⟨mo_X4_putSet, gb_in (by decide +kernel) (by decide +kernel), gb_in (by decide +kernel) (by decide +kernel), _, rfl, rfl⟩
set_option maxRecDepth 100000 in
theorem mo_X4_slotOf : MO mX4_slotOf 1 := ⟨gb_in (List.mem_of_getElem? (i := 850) (by rfl)) (by decide +kernel), gb_in (by decide +kernel) (by decide +kernel), by decide +kernel, by decide +kernel, by decide +kernel⟩
set_option maxRecDepth 100000 in
theorem ms_X4_slotOf : MS mX4_slotOf 1 := ⟨mo_X4_slotOf, gb_in (by decide +kernel) (by decide +kernel)⟩
set_option maxRecDepth 100000 in
theorem mo_X5_beginOf : MO mX5_beginOf 1 := ⟨gb_in (List.mem_of_getElem? (i := 1047) (by rfl)) (by decide +kernel), gb_in (by decide +kernel) (by decide +kernel), by decide +kernel, by decide +kernel, by decide +kernel⟩
set_option maxRecDepth 100000 in
theorem mv_X5_beginOf : MV mX5_beginOf 1 5 := ⟨mo_X5_beginOf, gb_in (by decide +kernel) (by decide +kernel), gb_in (by decide +kernel) (by decide +kernel), _, rfl, rfl⟩
set_option maxRecDepth 100000 in
theorem mo_X5_changeBy : MO mX5_changeBy 2 := ⟨gb_in (List.mem_of_getElem? (i := 1116) (by rfl)) (by decide +kernel), gb_in (by decide +kernel) (by decide +kernel), by decide +kernel, by decide +kernel, by decide +kernel⟩
set_option maxRecDepth 100000 in
theorem mv_X5_changeBy : MV mX5_changeBy 2 5 := ⟨mo_X5_changeBy, gb_in (by decide +kernel) (by decide +kernel), gb_in (by decide +kernel) (by decide +kernel), _, rfl, rfl⟩
set_option maxRecDepth 100000 in
theorem mo_X5_copy : MO mX5_copy 1 := ⟨gb_in (List.mem_of_getElem? (i := 1104) (by rfl)) (by decide +kernel), gb_in (by decide +kernel) (by decide +kernel), by decide +kernel, by decide +kernel, by decide +kernel⟩
set_option maxRecDepth 100000 in
theorem mv_X5_copy : MV mX5_copy 1 5 := ⟨mo_X5_copy, gb_in (by decide +kernel) (by decide +kernel), gb_in (by decide +kernel) (by decide +kernel), _, rfl, rfl⟩
set_option maxRecDepth 100000 in
theorem mo_X5_endOf : MO mX5_endOf 1 := ⟨gb_in (List.mem_of_getElem? (i := 1056) (by rfl)) (by decide +kernel), gb_in (by decide +kernel) (by decide +kernel), by decide +kernel, by decide +kernel, by decide +kernel⟩
set_option maxRecDepth 100000 in
theorem mv_X5_endOf : MV mX5_endOf 1 5 := ⟨mo_X5_endOf, gb_in (by decide +kernel) (by decide +kernel), gb_in (by decide +kernel) (by decide +kernel), _, rfl, rfl⟩
set_option maxRecDepth 100000 in
theorem mo_X5_farthestLeg : MO mX5_farthestLeg 0 := ⟨gb_in (List.mem_of_getElem? (i := 1192) (by rfl)) (by decide +kernel), gb_in (by decide +kernel) (by decide +kernel), by decide +kernel, by decide +kernel, by decide +kernel⟩
set_option maxRecDepth 100000 in
theorem mv_X5_farthestLeg : MV mX5_farthestLeg 0 5 := ⟨mo_X5_farthestLeg, gb_in (by decide +kernel) (by decide +kernel), gb_in (by decide +kernel) (by decide +kernel), _, rfl, rfl⟩
set_option maxRecDepth 100000 in
theorem mo_X5_isBackwards : MO mX5_isBackwards 1 := ⟨gb_in (List.mem_of_getElem? (i := 1051) (by rfl)) (by decide +kernel), gb_in (by decide +kernel) (by decide +kernel), by decide +kernel, by decide +kernel, by decide +kernel⟩
set_option maxRecDepth 100000 in
theorem mv_X5_isBackwards : MV mX5_isBackwards 1 5 := ⟨mo_X5_isBackwards, gb_in (by decide +kernel) (by decide +kernel), gb_in (by decide +kernel) (by decide +kernel), _, rfl, rfl⟩
set_option maxRecDepth 100000 in
theorem mo_X5_leg : MO mX5_leg 1 := ⟨gb_in (List.mem_of_getElem? (i := 1081) (by rfl)) (by decide +kernel), gb_in (by decide +kernel) (by decide +kernel), by decide +kernel, by decide +kernel, by decide +kernel⟩
set_option maxRecDepth 100000 in
theorem mv_X5_leg : MV mX5_leg 1 5 := ⟨mo_X5_leg, gb_in (by decide +kernel) (by decide +kernel), gb_in (by decide +kernel) (by decide +kernel), _, rfl, rfl⟩
set_option maxRecDepth 100000 in
theorem mo_X5_liftsBetween : MO mX5_liftsBetween 0 := ⟨gb_in (List.mem_of_getElem? (i := 1200) (by rfl)) (by decide +kernel), gb_in (by decide +kernel) (by decide +kernel), by decide +kernel, by decide +kernel, by decide +kernel⟩
set_option maxRecDepth 100000 in
theorem mv_X5_liftsBetween : MV mX5_liftsBetween 0 5 := ⟨mo_X5_liftsBetween, gb_in (by decide +kernel) (by decide +kernel), gb_in (by decide +kernel) (by decide +kernel), _, rfl, rfl⟩
set_option maxRecDepth 100000 in
theorem mo_X5_longestPlace : MO mX5_longestPlace 0 := ⟨gb_in (List.mem_of_getElem? (i := 1184) (by rfl)) (by decide +kernel), gb_in (by decide +kernel) (by decide +kernel), by decide +kernel, by decide +kernel, by decide +kernel⟩
set_option maxRecDepth 100000 in
theorem mv_X5_longestPlace : MV mX5_longestPlace 0 5 := ⟨mo_X5_longestPlace, gb_in (by decide +kernel) (by decide +kernel), gb_in (by decide +kernel) (by decide +kernel), _, rfl, rfl⟩
set_option maxRecDepth 100000 in
theorem mo_X5_makeBetter : MO mX5_makeBetter 0 := ⟨gb_in (List.mem_of_getElem? (i := 1108) (by rfl)) (by decide +kernel), gb_in (by decide +kernel) (by decide +kernel), by decide +kernel, by decide +kernel, by decide +kernel⟩
set_option maxRecDepth 100000 in
theorem mv_X5_makeBetter : MV mX5_makeBetter 0 5 := ⟨mo_X5_makeBetter, gb_in (by decide +kernel) (by decide +kernel), gb_in (by decide +kernel) (by decide +kernel), _, rfl, rfl⟩
set_option maxRecDepth 100000 in
theorem mo_X5_ofPen : MO mX5_ofPen 4 := ⟨gb_in (List.mem_of_getElem? (i := 1174) (by rfl)) (by decide +kernel), gb_in (by decide +kernel) (by decide +kernel), by decide +kernel, by decide +kernel, by decide +kernel⟩
set_option maxRecDepth 100000 in
theorem ms_X5_ofPen : MS mX5_ofPen 4 := ⟨mo_X5_ofPen, gb_in (by decide +kernel) (by decide +kernel)⟩
set_option maxRecDepth 100000 in
theorem mo_X5_penAt : MO mX5_penAt 2 := ⟨gb_in (List.mem_of_getElem? (i := 1171) (by rfl)) (by decide +kernel), gb_in (by decide +kernel) (by decide +kernel), by decide +kernel, by decide +kernel, by decide +kernel⟩
set_option maxRecDepth 100000 in
theorem mv_X5_penAt : MV mX5_penAt 2 5 := ⟨mo_X5_penAt, gb_in (by decide +kernel) (by decide +kernel), gb_in (by decide +kernel) (by decide +kernel), _, rfl, rfl⟩
set_option maxRecDepth 100000 in
theorem mo_X5_placeOf : MO mX5_placeOf 1 := ⟨gb_in (List.mem_of_getElem? (i := 1208) (by rfl)) (by decide +kernel), gb_in (by decide +kernel) (by decide +kernel), by decide +kernel, by decide +kernel, by decide +kernel⟩
set_option maxRecDepth 100000 in
theorem mv_X5_placeOf : MV mX5_placeOf 1 5 := ⟨mo_X5_placeOf, gb_in (by decide +kernel) (by decide +kernel), gb_in (by decide +kernel) (by decide +kernel), _, rfl, rfl⟩
set_option maxRecDepth 100000 in
theorem mo_X5_spotAhead : MO mX5_spotAhead 1 := ⟨gb_in (List.mem_of_getElem? (i := 1085) (by rfl)) (by decide +kernel), gb_in (by decide +kernel) (by decide +kernel), by decide +kernel, by decide +kernel, by decide +kernel⟩
set_option maxRecDepth 100000 in
theorem mv_X5_spotAhead : MV mX5_spotAhead 1 5 := ⟨mo_X5_spotAhead, gb_in (by decide +kernel) (by decide +kernel), gb_in (by decide +kernel) (by decide +kernel), _, rfl, rfl⟩
set_option maxRecDepth 100000 in
theorem mo_X5_spotBehind : MO mX5_spotBehind 1 := ⟨gb_in (List.mem_of_getElem? (i := 1090) (by rfl)) (by decide +kernel), gb_in (by decide +kernel) (by decide +kernel), by decide +kernel, by decide +kernel, by decide +kernel⟩
set_option maxRecDepth 100000 in
theorem mv_X5_spotBehind : MV mX5_spotBehind 1 5 := ⟨mo_X5_spotBehind, gb_in (by decide +kernel) (by decide +kernel), gb_in (by decide +kernel) (by decide +kernel), _, rfl, rfl⟩
set_option maxRecDepth 100000 in
theorem mo_X5_start : MO mX5_start 0 := ⟨gb_in (List.mem_of_getElem? (i := 951) (by rfl)) (by decide +kernel), gb_in (by decide +kernel) (by decide +kernel), by decide +kernel, by decide +kernel, by decide +kernel⟩
set_option maxRecDepth 100000 in
theorem mv_X5_start : MV mX5_start 0 5 := ⟨mo_X5_start, gb_in (by decide +kernel) (by decide +kernel), gb_in (by decide +kernel) (by decide +kernel), _, rfl, rfl⟩
set_option maxRecDepth 100000 in
theorem mo_X5_strokeAt : MO mX5_strokeAt 2 := ⟨gb_in (List.mem_of_getElem? (i := 1065) (by rfl)) (by decide +kernel), gb_in (by decide +kernel) (by decide +kernel), by decide +kernel, by decide +kernel, by decide +kernel⟩
set_option maxRecDepth 100000 in
theorem mv_X5_strokeAt : MV mX5_strokeAt 2 5 := ⟨mo_X5_strokeAt, gb_in (by decide +kernel) (by decide +kernel), gb_in (by decide +kernel) (by decide +kernel), _, rfl, rfl⟩
set_option maxRecDepth 100000 in
theorem mo_X5_trailAt : MO mX5_trailAt 1 := ⟨gb_in (List.mem_of_getElem? (i := 1043) (by rfl)) (by decide +kernel), gb_in (by decide +kernel) (by decide +kernel), by decide +kernel, by decide +kernel, by decide +kernel⟩
set_option maxRecDepth 100000 in
theorem mv_X5_trailAt : MV mX5_trailAt 1 5 := ⟨mo_X5_trailAt, gb_in (by decide +kernel) (by decide +kernel), gb_in (by decide +kernel) (by decide +kernel), _, rfl, rfl⟩
set_option maxRecDepth 100000 in
theorem mo_X5_turnRun : MO mX5_turnRun 2 := ⟨gb_in (List.mem_of_getElem? (i := 1120) (by rfl)) (by decide +kernel), gb_in (by decide +kernel) (by decide +kernel), by decide +kernel, by decide +kernel, by decide +kernel⟩
set_option maxRecDepth 100000 in
theorem mv_X5_turnRun : MV mX5_turnRun 2 5 := ⟨mo_X5_turnRun, gb_in (by decide +kernel) (by decide +kernel), gb_in (by decide +kernel) (by decide +kernel), _, rfl, rfl⟩
set_option maxRecDepth 100000 in
theorem mo_X5_turnsFirstThatWins : MO mX5_turnsFirstThatWins 0 := ⟨gb_in (List.mem_of_getElem? (i := 1112) (by rfl)) (by decide +kernel), gb_in (by decide +kernel) (by decide +kernel), by decide +kernel, by decide +kernel, by decide +kernel⟩
set_option maxRecDepth 100000 in
theorem mv_X5_turnsFirstThatWins : MV mX5_turnsFirstThatWins 0 5 := ⟨mo_X5_turnsFirstThatWins, gb_in (by decide +kernel) (by decide +kernel), gb_in (by decide +kernel) (by decide +kernel), _, rfl, rfl⟩
set_option maxRecDepth 100000 in
theorem mo_X5_wholeTime : MO mX5_wholeTime 0 := ⟨gb_in (List.mem_of_getElem? (i := 1156) (by rfl)) (by decide +kernel), gb_in (by decide +kernel) (by decide +kernel), by decide +kernel, by decide +kernel, by decide +kernel⟩
set_option maxRecDepth 100000 in
theorem mv_X5_wholeTime : MV mX5_wholeTime 0 5 := ⟨mo_X5_wholeTime, gb_in (by decide +kernel) (by decide +kernel), gb_in (by decide +kernel) (by decide +kernel), _, rfl, rfl⟩
set_option maxRecDepth 100000 in
theorem mo_X5_wholeTravel : MO mX5_wholeTravel 0 := ⟨gb_in (List.mem_of_getElem? (i := 1077) (by rfl)) (by decide +kernel), gb_in (by decide +kernel) (by decide +kernel), by decide +kernel, by decide +kernel, by decide +kernel⟩
set_option maxRecDepth 100000 in
theorem mv_X5_wholeTravel : MV mX5_wholeTravel 0 5 := ⟨mo_X5_wholeTravel, gb_in (by decide +kernel) (by decide +kernel), gb_in (by decide +kernel) (by decide +kernel), _, rfl, rfl⟩
set_option maxRecDepth 100000 in
theorem mo_X6_begin : MO mX6_begin 1 := ⟨gb_in (List.mem_of_getElem? (i := 610) (by rfl)) (by decide +kernel), gb_in (by decide +kernel) (by decide +kernel), by decide +kernel, by decide +kernel, by decide +kernel⟩
set_option maxRecDepth 100000 in
theorem mv_X6_begin : MV mX6_begin 1 6 := ⟨mo_X6_begin, gb_in (by decide +kernel) (by decide +kernel), gb_in (by decide +kernel) (by decide +kernel), _, rfl, rfl⟩
set_option maxRecDepth 100000 in
theorem mo_X6_fails : MO mX6_fails 1 := ⟨gb_in (List.mem_of_getElem? (i := 693) (by rfl)) (by decide +kernel), gb_in (by decide +kernel) (by decide +kernel), by decide +kernel, by decide +kernel, by decide +kernel⟩
set_option maxRecDepth 100000 in
theorem mv_X6_fails : MV mX6_fails 1 6 := ⟨mo_X6_fails, gb_in (by decide +kernel) (by decide +kernel), gb_in (by decide +kernel) (by decide +kernel), _, rfl, rfl⟩
set_option maxRecDepth 100000 in
theorem mo_X6_reads : MO mX6_reads 1 := ⟨gb_in (List.mem_of_getElem? (i := 606) (by rfl)) (by decide +kernel), gb_in (by decide +kernel) (by decide +kernel), by decide +kernel, by decide +kernel, by decide +kernel⟩
set_option maxRecDepth 100000 in
theorem mv_X6_reads : MV mX6_reads 1 6 := ⟨mo_X6_reads, gb_in (by decide +kernel) (by decide +kernel), gb_in (by decide +kernel) (by decide +kernel), _, rfl, rfl⟩
set_option maxRecDepth 100000 in
theorem mo_X6_readsHome : MO mX6_readsHome 0 := ⟨gb_in (List.mem_of_getElem? (i := 718) (by rfl)) (by decide +kernel), gb_in (by decide +kernel) (by decide +kernel), by decide +kernel, by decide +kernel, by decide +kernel⟩
set_option maxRecDepth 100000 in
theorem mv_X6_readsHome : MV mX6_readsHome 0 6 := ⟨mo_X6_readsHome, gb_in (by decide +kernel) (by decide +kernel), gb_in (by decide +kernel) (by decide +kernel), _, rfl, rfl⟩
set_option maxRecDepth 100000 in
theorem mo_X6_readsLine : MO mX6_readsLine 0 := ⟨gb_in (List.mem_of_getElem? (i := 625) (by rfl)) (by decide +kernel), gb_in (by decide +kernel) (by decide +kernel), by decide +kernel, by decide +kernel, by decide +kernel⟩
set_option maxRecDepth 100000 in
theorem mv_X6_readsLine : MV mX6_readsLine 0 6 := ⟨mo_X6_readsLine, gb_in (by decide +kernel) (by decide +kernel), gb_in (by decide +kernel) (by decide +kernel), _, rfl, rfl⟩
set_option maxRecDepth 100000 in
theorem mo_X6_readsPace : MO mX6_readsPace 0 := ⟨gb_in (List.mem_of_getElem? (i := 722) (by rfl)) (by decide +kernel), gb_in (by decide +kernel) (by decide +kernel), by decide +kernel, by decide +kernel, by decide +kernel⟩
set_option maxRecDepth 100000 in
theorem mv_X6_readsPace : MV mX6_readsPace 0 6 := ⟨mo_X6_readsPace, gb_in (by decide +kernel) (by decide +kernel), gb_in (by decide +kernel) (by decide +kernel), _, rfl, rfl⟩
set_option maxRecDepth 100000 in
theorem mo_X6_readsSheet : MO mX6_readsSheet 0 := ⟨gb_in (List.mem_of_getElem? (i := 689) (by rfl)) (by decide +kernel), gb_in (by decide +kernel) (by decide +kernel), by decide +kernel, by decide +kernel, by decide +kernel⟩
set_option maxRecDepth 100000 in
theorem mv_X6_readsSheet : MV mX6_readsSheet 0 6 := ⟨mo_X6_readsSheet, gb_in (by decide +kernel) (by decide +kernel), gb_in (by decide +kernel) (by decide +kernel), _, rfl, rfl⟩
set_option maxRecDepth 100000 in
theorem mo_X6_readsStroke : MO mX6_readsStroke 0 := ⟨gb_in (List.mem_of_getElem? (i := 710) (by rfl)) (by decide +kernel), gb_in (by decide +kernel) (by decide +kernel), by decide +kernel, by decide +kernel, by decide +kernel⟩
set_option maxRecDepth 100000 in
theorem mv_X6_readsStroke : MV mX6_readsStroke 0 6 := ⟨mo_X6_readsStroke, gb_in (by decide +kernel) (by decide +kernel), gb_in (by decide +kernel) (by decide +kernel), _, rfl, rfl⟩
set_option maxRecDepth 100000 in
theorem mo_X6_readsWhole : MO mX6_readsWhole 2 := ⟨gb_in (List.mem_of_getElem? (i := 702) (by rfl)) (by decide +kernel), gb_in (by decide +kernel) (by decide +kernel), by decide +kernel, by decide +kernel, by decide +kernel⟩
set_option maxRecDepth 100000 in
theorem mv_X6_readsWhole : MV mX6_readsWhole 2 6 := ⟨mo_X6_readsWhole, gb_in (by decide +kernel) (by decide +kernel), gb_in (by decide +kernel) (by decide +kernel), _, rfl, rfl⟩
set_option maxRecDepth 100000 in
theorem mo_X6_readsWord : MO mX6_readsWord 1 := ⟨gb_in (List.mem_of_getElem? (i := 698) (by rfl)) (by decide +kernel), gb_in (by decide +kernel) (by decide +kernel), by decide +kernel, by decide +kernel, by decide +kernel⟩
set_option maxRecDepth 100000 in
theorem mv_X6_readsWord : MV mX6_readsWord 1 6 := ⟨mo_X6_readsWord, gb_in (by decide +kernel) (by decide +kernel), gb_in (by decide +kernel) (by decide +kernel), _, rfl, rfl⟩
set_option maxRecDepth 100000 in
theorem mo_X7_hasRoom : MO mX7_hasRoom 0 := ⟨gb_in (List.mem_of_getElem? (i := 590) (by rfl)) (by decide +kernel), gb_in (by decide +kernel) (by decide +kernel), by decide +kernel, by decide +kernel, by decide +kernel⟩
set_option maxRecDepth 100000 in
theorem mv_X7_hasRoom : MV mX7_hasRoom 0 7 := ⟨mo_X7_hasRoom, gb_in (by decide +kernel) (by decide +kernel), gb_in (by decide +kernel) (by decide +kernel), _, rfl, rfl⟩
set_option maxRecDepth 100000 in
theorem mo_X7_isWord : MO mX7_isWord 1 := ⟨gb_in (List.mem_of_getElem? (i := 637) (by rfl)) (by decide +kernel), gb_in (by decide +kernel) (by decide +kernel), by decide +kernel, by decide +kernel, by decide +kernel⟩
set_option maxRecDepth 100000 in
theorem mv_X7_isWord : MV mX7_isWord 1 7 := ⟨mo_X7_isWord, gb_in (by decide +kernel) (by decide +kernel), gb_in (by decide +kernel) (by decide +kernel), _, rfl, rfl⟩
set_option maxRecDepth 100000 in
theorem mo_X7_kindOf : MO mX7_kindOf 1 := ⟨gb_in (List.mem_of_getElem? (i := 632) (by rfl)) (by decide +kernel), gb_in (by decide +kernel) (by decide +kernel), by decide +kernel, by decide +kernel, by decide +kernel⟩
set_option maxRecDepth 100000 in
theorem ms_X7_kindOf : MS mX7_kindOf 1 := ⟨mo_X7_kindOf, gb_in (by decide +kernel) (by decide +kernel)⟩
set_option maxRecDepth 100000 in
theorem mo_X7_put : MO mX7_put 1 := ⟨gb_in (List.mem_of_getElem? (i := 594) (by rfl)) (by decide +kernel), gb_in (by decide +kernel) (by decide +kernel), by decide +kernel, by decide +kernel, by decide +kernel⟩
set_option maxRecDepth 100000 in
theorem mv_X7_put : MV mX7_put 1 7 := ⟨mo_X7_put, gb_in (by decide +kernel) (by decide +kernel), gb_in (by decide +kernel) (by decide +kernel), _, rfl, rfl⟩
set_option maxRecDepth 100000 in
theorem mo_X7_rewind : MO mX7_rewind 1 := ⟨gb_in (List.mem_of_getElem? (i := 614) (by rfl)) (by decide +kernel), gb_in (by decide +kernel) (by decide +kernel), by decide +kernel, by decide +kernel, by decide +kernel⟩
set_option maxRecDepth 100000 in
theorem mv_X7_rewind : MV mX7_rewind 1 7 := ⟨mo_X7_rewind, gb_in (by decide +kernel) (by decide +kernel), gb_in (by decide +kernel) (by decide +kernel), _, rfl, rfl⟩
set_option maxRecDepth 100000 in
theorem mo_X7_step : MO mX7_step 0 := ⟨gb_in (List.mem_of_getElem? (i := 629) (by rfl)) (by decide +kernel), gb_in (by decide +kernel) (by decide +kernel), by decide +kernel, by decide +kernel, by decide +kernel⟩
set_option maxRecDepth 100000 in
theorem mv_X7_step : MV mX7_step 0 7 := ⟨mo_X7_step, gb_in (by decide +kernel) (by decide +kernel), gb_in (by decide +kernel) (by decide +kernel), _, rfl, rfl⟩
set_option maxRecDepth 100000 in
theorem mo_X8_branch : MO mX8_branch 2 := ⟨gb_in (List.mem_of_getElem? (i := 1148) (by rfl)) (by decide +kernel), gb_in (by decide +kernel) (by decide +kernel), by decide +kernel, by decide +kernel, by decide +kernel⟩
set_option maxRecDepth 100000 in
theorem mv_X8_branch : MV mX8_branch 2 8 := ⟨mo_X8_branch, gb_in (by decide +kernel) (by decide +kernel), gb_in (by decide +kernel) (by decide +kernel), _, rfl, rfl⟩
set_option maxRecDepth 100000 in
theorem mo_X8_comeNear : MO mX8_comeNear 1 := ⟨gb_in (List.mem_of_getElem? (i := 1144) (by rfl)) (by decide +kernel), gb_in (by decide +kernel) (by decide +kernel), by decide +kernel, by decide +kernel, by decide +kernel⟩
set_option maxRecDepth 100000 in
theorem mv_X8_comeNear : MV mX8_comeNear 1 8 := ⟨mo_X8_comeNear, gb_in (by decide +kernel) (by decide +kernel), gb_in (by decide +kernel) (by decide +kernel), _, rfl, rfl⟩
set_option maxRecDepth 100000 in
theorem mo_X8_gather : MO mX8_gather 0 := ⟨gb_in (List.mem_of_getElem? (i := 919) (by rfl)) (by decide +kernel), gb_in (by decide +kernel) (by decide +kernel), by decide +kernel, by decide +kernel, by decide +kernel⟩
set_option maxRecDepth 100000 in
theorem mv_X8_gather : MV mX8_gather 0 8 := ⟨mo_X8_gather, gb_in (by decide +kernel) (by decide +kernel), gb_in (by decide +kernel) (by decide +kernel), _, rfl, rfl⟩
set_option maxRecDepth 100000 in
theorem mo_X8_leastTree : MO mX8_leastTree 0 := ⟨gb_in (List.mem_of_getElem? (i := 1134) (by rfl)) (by decide +kernel), gb_in (by decide +kernel) (by decide +kernel), by decide +kernel, by decide +kernel, by decide +kernel⟩
set_option maxRecDepth 100000 in
theorem mv_X8_leastTree : MV mX8_leastTree 0 8 := ⟨mo_X8_leastTree, gb_in (by decide +kernel) (by decide +kernel), gb_in (by decide +kernel) (by decide +kernel), _, rfl, rfl⟩
set_option maxRecDepth 100000 in
theorem mo_X8_nearestTrail : MO mX8_nearestTrail 0 := ⟨gb_in (List.mem_of_getElem? (i := 1140) (by rfl)) (by decide +kernel), gb_in (by decide +kernel) (by decide +kernel), by decide +kernel, by decide +kernel, by decide +kernel⟩
set_option maxRecDepth 100000 in
theorem mv_X8_nearestTrail : MV mX8_nearestTrail 0 8 := ⟨mo_X8_nearestTrail, gb_in (by decide +kernel) (by decide +kernel), gb_in (by decide +kernel) (by decide +kernel), _, rfl, rfl⟩
set_option maxRecDepth 100000 in
theorem mo_X8_open : MO mX8_open 2 := ⟨gb_in (List.mem_of_getElem? (i := 933) (by rfl)) (by decide +kernel), gb_in (by decide +kernel) (by decide +kernel), by decide +kernel, by decide +kernel, by decide +kernel⟩
set_option maxRecDepth 100000 in
theorem mv_X8_open : MV mX8_open 2 8 := ⟨mo_X8_open, gb_in (by decide +kernel) (by decide +kernel), gb_in (by decide +kernel) (by decide +kernel), _, rfl, rfl⟩
set_option maxRecDepth 100000 in
theorem mo_X8_putStroke : MO mX8_putStroke 1 := ⟨gb_in (List.mem_of_getElem? (i := 938) (by rfl)) (by decide +kernel), gb_in (by decide +kernel) (by decide +kernel), by decide +kernel, by decide +kernel, by decide +kernel⟩
set_option maxRecDepth 100000 in
theorem mv_X8_putStroke : MV mX8_putStroke 1 8 := ⟨mo_X8_putStroke, gb_in (by decide +kernel) (by decide +kernel), gb_in (by decide +kernel) (by decide +kernel), _, rfl, rfl⟩
set_option maxRecDepth 100000 in
theorem mo_X8_strokeOf : MO mX8_strokeOf 2 := ⟨gb_in (List.mem_of_getElem? (i := 1069) (by rfl)) (by decide +kernel), gb_in (by decide +kernel) (by decide +kernel), by decide +kernel, by decide +kernel, by decide +kernel⟩
set_option maxRecDepth 100000 in
theorem mv_X8_strokeOf : MV mX8_strokeOf 2 8 := ⟨mo_X8_strokeOf, gb_in (by decide +kernel) (by decide +kernel), gb_in (by decide +kernel) (by decide +kernel), _, rfl, rfl⟩
set_option maxRecDepth 100000 in
theorem mo_X9_firstOpenPlace : MO mX9_firstOpenPlace 1 := ⟨gb_in (List.mem_of_getElem? (i := 915) (by rfl)) (by decide +kernel), gb_in (by decide +kernel) (by decide +kernel), by decide +kernel, by decide +kernel, by decide +kernel⟩
set_option maxRecDepth 100000 in
theorem mv_X9_firstOpenPlace : MV mX9_firstOpenPlace 1 9 := ⟨mo_X9_firstOpenPlace, gb_in (by decide +kernel) (by decide +kernel), gb_in (by decide +kernel) (by decide +kernel), _, rfl, rfl⟩
set_option maxRecDepth 100000 in
theorem mo_X9_firstWayFrom : MO mX9_firstWayFrom 2 := ⟨gb_in (List.mem_of_getElem? (i := 891) (by rfl)) (by decide +kernel), gb_in (by decide +kernel) (by decide +kernel), by decide +kernel, by decide +kernel, by decide +kernel⟩
set_option maxRecDepth 100000 in
theorem mv_X9_firstWayFrom : MV mX9_firstWayFrom 2 9 := ⟨mo_X9_firstWayFrom, gb_in (by decide +kernel) (by decide +kernel), gb_in (by decide +kernel) (by decide +kernel), _, rfl, rfl⟩
set_option maxRecDepth 100000 in
theorem mo_X9_gather : MO mX9_gather 0 := ⟨gb_in (List.mem_of_getElem? (i := 870) (by rfl)) (by decide +kernel), gb_in (by decide +kernel) (by decide +kernel), by decide +kernel, by decide +kernel, by decide +kernel⟩
set_option maxRecDepth 100000 in
theorem mv_X9_gather : MV mX9_gather 0 9 := ⟨mo_X9_gather, gb_in (by decide +kernel) (by decide +kernel), gb_in (by decide +kernel) (by decide +kernel), _, rfl, rfl⟩
set_option maxRecDepth 100000 in
theorem mo_X9_goneBy : MO mX9_goneBy 2 := ⟨gb_in (List.mem_of_getElem? (i := 904) (by rfl)) (by decide +kernel), gb_in (by decide +kernel) (by decide +kernel), by decide +kernel, by decide +kernel, by decide +kernel⟩
set_option maxRecDepth 100000 in
theorem mv_X9_goneBy : MV mX9_goneBy 2 9 := ⟨mo_X9_goneBy, gb_in (by decide +kernel) (by decide +kernel), gb_in (by decide +kernel) (by decide +kernel), _, rfl, rfl⟩
set_option maxRecDepth 100000 in
theorem mo_X9_isHop : MO mX9_isHop 1 := ⟨gb_in (List.mem_of_getElem? (i := 907) (by rfl)) (by decide +kernel), gb_in (by decide +kernel) (by decide +kernel), by decide +kernel, by decide +kernel, by decide +kernel⟩
set_option maxRecDepth 100000 in
theorem ms_X9_isHop : MS mX9_isHop 1 := ⟨mo_X9_isHop, gb_in (by decide +kernel) (by decide +kernel)⟩
set_option maxRecDepth 100000 in
theorem mo_X9_makeRing : MO mX9_makeRing 2 := ⟨gb_in (List.mem_of_getElem? (i := 887) (by rfl)) (by decide +kernel), gb_in (by decide +kernel) (by decide +kernel), by decide +kernel, by decide +kernel, by decide +kernel⟩
set_option maxRecDepth 100000 in
theorem mv_X9_makeRing : MV mX9_makeRing 2 9 := ⟨mo_X9_makeRing, gb_in (by decide +kernel) (by decide +kernel), gb_in (by decide +kernel) (by decide +kernel), _, rfl, rfl⟩
set_option maxRecDepth 100000 in
theorem mo_X9_makeWalk : MO mX9_makeWalk 1 := ⟨gb_in (List.mem_of_getElem? (i := 875) (by rfl)) (by decide +kernel), gb_in (by decide +kernel) (by decide +kernel), by decide +kernel, by decide +kernel, by decide +kernel⟩
set_option maxRecDepth 100000 in
theorem mv_X9_makeWalk : MV mX9_makeWalk 1 9 := ⟨mo_X9_makeWalk, gb_in (by decide +kernel) (by decide +kernel), gb_in (by decide +kernel) (by decide +kernel), _, rfl, rfl⟩
set_option maxRecDepth 100000 in
theorem mo_X9_putRing : MO mX9_putRing 1 := ⟨gb_in (List.mem_of_getElem? (i := 911) (by rfl)) (by decide +kernel), gb_in (by decide +kernel) (by decide +kernel), by decide +kernel, by decide +kernel, by decide +kernel⟩
set_option maxRecDepth 100000 in
theorem mv_X9_putRing : MV mX9_putRing 1 9 := ⟨mo_X9_putRing, gb_in (by decide +kernel) (by decide +kernel), gb_in (by decide +kernel) (by decide +kernel), _, rfl, rfl⟩
set_option maxRecDepth 100000 in
theorem mo_X9_wayOf : MO mX9_wayOf 2 := ⟨gb_in (List.mem_of_getElem? (i := 928) (by rfl)) (by decide +kernel), gb_in (by decide +kernel) (by decide +kernel), by decide +kernel, by decide +kernel, by decide +kernel⟩
set_option maxRecDepth 100000 in
theorem mv_X9_wayOf : MV mX9_wayOf 2 9 := ⟨mo_X9_wayOf, gb_in (by decide +kernel) (by decide +kernel), gb_in (by decide +kernel) (by decide +kernel), _, rfl, rfl⟩
set_option maxRecDepth 100000 in
theorem mo_X9_waysIn : MO mX9_waysIn 1 := ⟨gb_in (List.mem_of_getElem? (i := 924) (by rfl)) (by decide +kernel), gb_in (by decide +kernel) (by decide +kernel), by decide +kernel, by decide +kernel, by decide +kernel⟩
set_option maxRecDepth 100000 in
theorem mv_X9_waysIn : MV mX9_waysIn 1 9 := ⟨mo_X9_waysIn, gb_in (by decide +kernel) (by decide +kernel), gb_in (by decide +kernel) (by decide +kernel), _, rfl, rfl⟩
