set_option maxRecDepth 100000 in
theorem ms_J3_checkIndex_8e157 : MS mJ3_checkIndex_8e157 3 := ⟨mo_J3_checkIndex_8e157, gb_in (by decide +kernel) (by decide +kernel)⟩
set_option maxRecDepth 100000 in
theorem mo_X0_allLengths : MO mX0_allLengths 0 := ⟨gb_in (List.mem_of_getElem? (i := 1160) (by rfl)) (by decide +kernel), gb_in (by decide +kernel) (by decide +kernel), by decide +kernel, by decide +kernel, by decide +kernel⟩
set_option maxRecDepth 100000 in
theorem mv_X0_allLengths : MV mX0_allLengths 0 0 := ⟨mo_X0_allLengths, gb_in (by decide +kernel) (by decide +kernel), gb_in (by decide +kernel) (by decide +kernel), _, rfl, rfl⟩
set_option maxRecDepth 100000 in
theorem mo_X0_clear : MO mX0_clear 0 := ⟨gb_in (List.mem_of_getElem? (i := 621) (by rfl)) (by decide +kernel), gb_in (by decide +kernel) (by decide +kernel), by decide +kernel, by decide +kernel, by decide +kernel⟩
set_option maxRecDepth 100000 in
theorem mv_X0_clear : MV mX0_clear 0 0 := ⟨mo_X0_clear, gb_in (by decide +kernel) (by decide +kernel), gb_in (by decide +kernel) (by decide +kernel), _, rfl, rfl⟩
set_option maxRecDepth 100000 in
theorem mo_X0_copy : MO mX0_copy 1 := ⟨gb_in (List.mem_of_getElem? (i := 726) (by rfl)) (by decide +kernel), gb_in (by decide +kernel) (by decide +kernel), by decide +kernel, by decide +kernel, by decide +kernel⟩
set_option maxRecDepth 100000 in
theorem mv_X0_copy : MV mX0_copy 1 0 := ⟨mo_X0_copy, gb_in (by decide +kernel) (by decide +kernel), gb_in (by decide +kernel) (by decide +kernel), _, rfl, rfl⟩
set_option maxRecDepth 100000 in
theorem mo_X0_endsApart : MO mX0_endsApart 2 := ⟨gb_in (List.mem_of_getElem? (i := 946) (by rfl)) (by decide +kernel), gb_in (by decide +kernel) (by decide +kernel), by decide +kernel, by decide +kernel, by decide +kernel⟩
set_option maxRecDepth 100000 in
theorem mv_X0_endsApart : MV mX0_endsApart 2 0 := ⟨mo_X0_endsApart, gb_in (by decide +kernel) (by decide +kernel), gb_in (by decide +kernel) (by decide +kernel), _, rfl, rfl⟩
set_option maxRecDepth 100000 in
theorem mo_X0_hasPoint : MO mX0_hasPoint 2 := ⟨gb_in (List.mem_of_getElem? (i := 1220) (by rfl)) (by decide +kernel), gb_in (by decide +kernel) (by decide +kernel), by decide +kernel, by decide +kernel, by decide +kernel⟩
set_option maxRecDepth 100000 in
theorem mv_X0_hasPoint : MV mX0_hasPoint 2 0 := ⟨mo_X0_hasPoint, gb_in (by decide +kernel) (by decide +kernel), gb_in (by decide +kernel) (by decide +kernel), _, rfl, rfl⟩
set_option maxRecDepth 100000 in
theorem mo_X0_putStroke : MO mX0_putStroke 4 := ⟨gb_in (List.mem_of_getElem? (i := 714) (by rfl)) (by decide +kernel), gb_in (by decide +kernel) (by decide +kernel), by decide +kernel, by decide +kernel, by decide +kernel⟩
set_option maxRecDepth 100000 in
theorem mv_X0_putStroke : MV mX0_putStroke 4 0 := ⟨mo_X0_putStroke, gb_in (by decide +kernel) (by decide +kernel), gb_in (by decide +kernel) (by decide +kernel), _, rfl, rfl⟩
set_option maxRecDepth 100000 in
theorem mo_X0_removeStroke : MO mX0_removeStroke 1 := ⟨gb_in (List.mem_of_getElem? (i := 1238) (by rfl)) (by decide +kernel), gb_in (by decide +kernel) (by decide +kernel), by decide +kernel, by decide +kernel, by decide +kernel⟩
set_option maxRecDepth 100000 in
theorem mv_X0_removeStroke : MV mX0_removeStroke 1 0 := ⟨mo_X0_removeStroke, gb_in (by decide +kernel) (by decide +kernel), gb_in (by decide +kernel) (by decide +kernel), _, rfl, rfl⟩
set_option maxRecDepth 100000 in
theorem mo_X0_strokeLength : MO mX0_strokeLength 1 := ⟨gb_in (List.mem_of_getElem? (i := 942) (by rfl)) (by decide +kernel), gb_in (by decide +kernel) (by decide +kernel), by decide +kernel, by decide +kernel, by decide +kernel⟩
set_option maxRecDepth 100000 in
theorem mv_X0_strokeLength : MV mX0_strokeLength 1 0 := ⟨mo_X0_strokeLength, gb_in (by decide +kernel) (by decide +kernel), gb_in (by decide +kernel) (by decide +kernel), _, rfl, rfl⟩
set_option maxRecDepth 100000 in
theorem mo_X10_about : MO mX10_about 1 := ⟨gb_in (List.mem_of_getElem? (i := 968) (by rfl)) (by decide +kernel), gb_in (by decide +kernel) (by decide +kernel), by decide +kernel, by decide +kernel, by decide +kernel⟩
set_option maxRecDepth 100000 in
theorem mv_X10_about : MV mX10_about 1 10 := ⟨mo_X10_about, gb_in (by decide +kernel) (by decide +kernel), gb_in (by decide +kernel) (by decide +kernel), _, rfl, rfl⟩
set_option maxRecDepth 100000 in
theorem mo_X10_add : MO mX10_add 4 := ⟨gb_in (List.mem_of_getElem? (i := 1254) (by rfl)) (by decide +kernel), gb_in (by decide +kernel) (by decide +kernel), by decide +kernel, by decide +kernel, by decide +kernel⟩
set_option maxRecDepth 100000 in
theorem mv_X10_add : MV mX10_add 4 10 := ⟨mo_X10_add, gb_in (by decide +kernel) (by decide +kernel), gb_in (by decide +kernel) (by decide +kernel), _, rfl, rfl⟩
set_option maxRecDepth 100000 in
theorem mo_X10_better : MO mX10_better 1 := ⟨gb_in (List.mem_of_getElem? (i := 1100) (by rfl)) (by decide +kernel), gb_in (by decide +kernel) (by decide +kernel), by decide +kernel, by decide +kernel, by decide +kernel⟩
set_option maxRecDepth 100000 in
theorem mv_X10_better : MV mX10_better 1 10 := ⟨mo_X10_better, gb_in (by decide +kernel) (by decide +kernel), gb_in (by decide +kernel) (by decide +kernel), _, rfl, rfl⟩
set_option maxRecDepth 100000 in
theorem mo_X10_drop : MO mX10_drop 1 := ⟨gb_in (List.mem_of_getElem? (i := 1265) (by rfl)) (by decide +kernel), gb_in (by decide +kernel) (by decide +kernel), by decide +kernel, by decide +kernel, by decide +kernel⟩
set_option maxRecDepth 100000 in
theorem mv_X10_drop : MV mX10_drop 1 10 := ⟨mo_X10_drop, gb_in (by decide +kernel) (by decide +kernel), gb_in (by decide +kernel) (by decide +kernel), _, rfl, rfl⟩
set_option maxRecDepth 100000 in
theorem mo_X10_enough : MO mX10_enough 1 := ⟨gb_in (List.mem_of_getElem? (i := 1250) (by rfl)) (by decide +kernel), gb_in (by decide +kernel) (by decide +kernel), by decide +kernel, by decide +kernel, by decide +kernel⟩
set_option maxRecDepth 100000 in
theorem mv_X10_enough : MV mX10_enough 1 10 := ⟨mo_X10_enough, gb_in (by decide +kernel) (by decide +kernel), gb_in (by decide +kernel) (by decide +kernel), _, rfl, rfl⟩
set_option maxRecDepth 100000 in
theorem mo_X10_exchange : MO mX10_exchange 2 := ⟨gb_in (List.mem_of_getElem? (i := 1285) (by rfl)) (by decide +kernel), gb_in (by decide +kernel) (by decide +kernel), by decide +kernel, by decide +kernel, by decide +kernel⟩
set_option maxRecDepth 100000 in
theorem mv_X10_exchange : MV mX10_exchange 2 10 := ⟨mo_X10_exchange, gb_in (by decide +kernel) (by decide +kernel), gb_in (by decide +kernel) (by decide +kernel), _, rfl, rfl⟩
set_option maxRecDepth 100000 in
theorem mo_X10_exchanged : MO mX10_exchanged 2 := ⟨gb_in (List.mem_of_getElem? (i := 1124) (by rfl)) (by decide +kernel), gb_in (by decide +kernel) (by decide +kernel), by decide +kernel, by decide +kernel, by decide +kernel⟩
set_option maxRecDepth 100000 in
theorem mv_X10_exchanged : MV mX10_exchanged 2 10 := ⟨mo_X10_exchanged, gb_in (by decide +kernel) (by decide +kernel), gb_in (by decide +kernel) (by decide +kernel), _, rfl, rfl⟩
set_option maxRecDepth 100000 in
theorem mo_X10_farthest : MO mX10_farthest 0 := ⟨gb_in (List.mem_of_getElem? (i := 1188) (by rfl)) (by decide +kernel), gb_in (by decide +kernel) (by decide +kernel), by decide +kernel, by decide +kernel, by decide +kernel⟩
set_option maxRecDepth 100000 in
theorem mv_X10_farthest : MV mX10_farthest 0 10 := ⟨mo_X10_farthest, gb_in (by decide +kernel) (by decide +kernel), gb_in (by decide +kernel) (by decide +kernel), _, rfl, rfl⟩
set_option maxRecDepth 100000 in
theorem mo_X10_fault : MO mX10_fault 0 := ⟨gb_in (List.mem_of_getElem? (i := 960) (by rfl)) (by decide +kernel), gb_in (by decide +kernel) (by decide +kernel), by decide +kernel, by decide +kernel, by decide +kernel⟩
set_option maxRecDepth 100000 in
theorem mv_X10_fault : MV mX10_fault 0 10 := ⟨mo_X10_fault, gb_in (by decide +kernel) (by decide +kernel), gb_in (by decide +kernel) (by decide +kernel), _, rfl, rfl⟩
set_option maxRecDepth 100000 in
theorem mo_X10_feed : MO mX10_feed 5 := ⟨gb_in (List.mem_of_getElem? (i := 586) (by rfl)) (by decide +kernel), gb_in (by decide +kernel) (by decide +kernel), by decide +kernel, by decide +kernel, by decide +kernel⟩
set_option maxRecDepth 100000 in
theorem mv_X10_feed : MV mX10_feed 5 10 := ⟨mo_X10_feed, gb_in (by decide +kernel) (by decide +kernel), gb_in (by decide +kernel) (by decide +kernel), _, rfl, rfl⟩
set_option maxRecDepth 100000 in
theorem mo_X10_floor : MO mX10_floor 0 := ⟨gb_in (List.mem_of_getElem? (i := 1130) (by rfl)) (by decide +kernel), gb_in (by decide +kernel) (by decide +kernel), by decide +kernel, by decide +kernel, by decide +kernel⟩
set_option maxRecDepth 100000 in
theorem mv_X10_floor : MV mX10_floor 0 10 := ⟨mo_X10_floor, gb_in (by decide +kernel) (by decide +kernel), gb_in (by decide +kernel) (by decide +kernel), _, rfl, rfl⟩
set_option maxRecDepth 100000 in
theorem mo_X10_hasPart : MO mX10_hasPart 1 := ⟨gb_in (List.mem_of_getElem? (i := 1003) (by rfl)) (by decide +kernel), gb_in (by decide +kernel) (by decide +kernel), by decide +kernel, by decide +kernel, by decide +kernel⟩
set_option maxRecDepth 100000 in
theorem mv_X10_hasPart : MV mX10_hasPart 1 10 := ⟨mo_X10_hasPart, gb_in (by decide +kernel) (by decide +kernel), gb_in (by decide +kernel) (by decide +kernel), _, rfl, rfl⟩
set_option maxRecDepth 100000 in
theorem mo_X10_hasPlace : MO mX10_hasPlace 1 := ⟨gb_in (List.mem_of_getElem? (i := 1039) (by rfl)) (by decide +kernel), gb_in (by decide +kernel) (by decide +kernel), by decide +kernel, by decide +kernel, by decide +kernel⟩
set_option maxRecDepth 100000 in
theorem mv_X10_hasPlace : MV mX10_hasPlace 1 10 := ⟨mo_X10_hasPlace, gb_in (by decide +kernel) (by decide +kernel), gb_in (by decide +kernel) (by decide +kernel), _, rfl, rfl⟩
set_option maxRecDepth 100000 in
theorem mo_X10_hasStroke : MO mX10_hasStroke 1 := ⟨gb_in (List.mem_of_getElem? (i := 982) (by rfl)) (by decide +kernel), gb_in (by decide +kernel) (by decide +kernel), by decide +kernel, by decide +kernel, by decide +kernel⟩
set_option maxRecDepth 100000 in
theorem mv_X10_hasStroke : MV mX10_hasStroke 1 10 := ⟨mo_X10_hasStroke, gb_in (by decide +kernel) (by decide +kernel), gb_in (by decide +kernel) (by decide +kernel), _, rfl, rfl⟩
set_option maxRecDepth 100000 in
theorem mo_X10_home : MO mX10_home 2 := ⟨gb_in (List.mem_of_getElem? (i := 1269) (by rfl)) (by decide +kernel), gb_in (by decide +kernel) (by decide +kernel), by decide +kernel, by decide +kernel, by decide +kernel⟩
set_option maxRecDepth 100000 in
theorem mv_X10_home : MV mX10_home 2 10 := ⟨mo_X10_home, gb_in (by decide +kernel) (by decide +kernel), gb_in (by decide +kernel) (by decide +kernel), _, rfl, rfl⟩
set_option maxRecDepth 100000 in
theorem mo_X10_improve : MO mX10_improve 0 := ⟨gb_in (List.mem_of_getElem? (i := 1290) (by rfl)) (by decide +kernel), gb_in (by decide +kernel) (by decide +kernel), by decide +kernel, by decide +kernel, by decide +kernel⟩
set_option maxRecDepth 100000 in
theorem mv_X10_improve : MV mX10_improve 0 10 := ⟨mo_X10_improve, gb_in (by decide +kernel) (by decide +kernel), gb_in (by decide +kernel) (by decide +kernel), _, rfl, rfl⟩
set_option maxRecDepth 100000 in
theorem mo_X10_isPace : MO mX10_isPace 1 := ⟨gb_in (List.mem_of_getElem? (i := 1281) (by rfl)) (by decide +kernel), gb_in (by decide +kernel) (by decide +kernel), by decide +kernel, by decide +kernel, by decide +kernel⟩
set_option maxRecDepth 100000 in
theorem mv_X10_isPace : MV mX10_isPace 1 10 := ⟨mo_X10_isPace, gb_in (by decide +kernel) (by decide +kernel), gb_in (by decide +kernel) (by decide +kernel), _, rfl, rfl⟩
set_option maxRecDepth 100000 in
theorem mo_X10_join : MO mX10_join 1 := ⟨gb_in (List.mem_of_getElem? (i := 1273) (by rfl)) (by decide +kernel), gb_in (by decide +kernel) (by decide +kernel), by decide +kernel, by decide +kernel, by decide +kernel⟩
set_option maxRecDepth 100000 in
theorem mv_X10_join : MV mX10_join 1 10 := ⟨mo_X10_join, gb_in (by decide +kernel) (by decide +kernel), gb_in (by decide +kernel) (by decide +kernel), _, rfl, rfl⟩
set_option maxRecDepth 100000 in
theorem mo_X10_leastJoinFor : MO mX10_leastJoinFor 1 := ⟨gb_in (List.mem_of_getElem? (i := 1246) (by rfl)) (by decide +kernel), gb_in (by decide +kernel) (by decide +kernel), by decide +kernel, by decide +kernel, by decide +kernel⟩
set_option maxRecDepth 100000 in
theorem mv_X10_leastJoinFor : MV mX10_leastJoinFor 1 10 := ⟨mo_X10_leastJoinFor, gb_in (by decide +kernel) (by decide +kernel), gb_in (by decide +kernel) (by decide +kernel), _, rfl, rfl⟩
set_option maxRecDepth 100000 in
theorem mo_X10_lifts : MO mX10_lifts 0 := ⟨gb_in (List.mem_of_getElem? (i := 1196) (by rfl)) (by decide +kernel), gb_in (by decide +kernel) (by decide +kernel), by decide +kernel, by decide +kernel, by decide +kernel⟩
set_option maxRecDepth 100000 in
theorem mv_X10_lifts : MV mX10_lifts 0 10 := ⟨mo_X10_lifts, gb_in (by decide +kernel) (by decide +kernel), gb_in (by decide +kernel) (by decide +kernel), _, rfl, rfl⟩
set_option maxRecDepth 100000 in
theorem mo_X10_longest : MO mX10_longest 0 := ⟨gb_in (List.mem_of_getElem? (i := 1180) (by rfl)) (by decide +kernel), gb_in (by decide +kernel) (by decide +kernel), by decide +kernel, by decide +kernel, by decide +kernel⟩
set_option maxRecDepth 100000 in
theorem mv_X10_longest : MV mX10_longest 0 10 := ⟨mo_X10_longest, gb_in (by decide +kernel) (by decide +kernel), gb_in (by decide +kernel) (by decide +kernel), _, rfl, rfl⟩
set_option maxRecDepth 100000 in
theorem mo_X10_loose : MO mX10_loose 1 := ⟨gb_in (List.mem_of_getElem? (i := 1314) (by rfl)) (by decide +kernel), gb_in (by decide +kernel) (by decide +kernel), by decide +kernel, by decide +kernel, by decide +kernel⟩
set_option maxRecDepth 100000 in
theorem mv_X10_loose : MV mX10_loose 1 10 := ⟨mo_X10_loose, gb_in (by decide +kernel) (by decide +kernel), gb_in (by decide +kernel) (by decide +kernel), _, rfl, rfl⟩
set_option maxRecDepth 100000 in
theorem mo_X10_meeting : MO mX10_meeting 2 := ⟨gb_in (List.mem_of_getElem? (i := 988) (by rfl)) (by decide +kernel), gb_in (by decide +kernel) (by decide +kernel), by decide +kernel, by decide +kernel, by decide +kernel⟩
set_option maxRecDepth 100000 in
theorem mv_X10_meeting : MV mX10_meeting 2 10 := ⟨mo_X10_meeting, gb_in (by decide +kernel) (by decide +kernel), gb_in (by decide +kernel) (by decide +kernel), _, rfl, rfl⟩
set_option maxRecDepth 100000 in
theorem mo_X10_nearest : MO mX10_nearest 0 := ⟨gb_in (List.mem_of_getElem? (i := 1242) (by rfl)) (by decide +kernel), gb_in (by decide +kernel) (by decide +kernel), by decide +kernel, by decide +kernel, by decide +kernel⟩
set_option maxRecDepth 100000 in
theorem mv_X10_nearest : MV mX10_nearest 0 10 := ⟨mo_X10_nearest, gb_in (by decide +kernel) (by decide +kernel), gb_in (by decide +kernel) (by decide +kernel), _, rfl, rfl⟩
set_option maxRecDepth 100000 in
theorem mo_X10_pace : MO mX10_pace 2 := ⟨gb_in (List.mem_of_getElem? (i := 1277) (by rfl)) (by decide +kernel), gb_in (by decide +kernel) (by decide +kernel), by decide +kernel, by decide +kernel, by decide +kernel⟩
set_option maxRecDepth 100000 in
theorem mv_X10_pace : MV mX10_pace 2 10 := ⟨mo_X10_pace, gb_in (by decide +kernel) (by decide +kernel), gb_in (by decide +kernel) (by decide +kernel), _, rfl, rfl⟩
set_option maxRecDepth 100000 in
theorem mo_X10_pair : MO mX10_pair 2 := ⟨gb_in (List.mem_of_getElem? (i := 1025) (by rfl)) (by decide +kernel), gb_in (by decide +kernel) (by decide +kernel), by decide +kernel, by decide +kernel, by decide +kernel⟩
set_option maxRecDepth 100000 in
theorem mv_X10_pair : MV mX10_pair 2 10 := ⟨mo_X10_pair, gb_in (by decide +kernel) (by decide +kernel), gb_in (by decide +kernel) (by decide +kernel), _, rfl, rfl⟩
set_option maxRecDepth 100000 in
theorem mo_X10_part : MO mX10_part 2 := ⟨gb_in (List.mem_of_getElem? (i := 999) (by rfl)) (by decide +kernel), gb_in (by decide +kernel) (by decide +kernel), by decide +kernel, by decide +kernel, by decide +kernel⟩
set_option maxRecDepth 100000 in
theorem mv_X10_part : MV mX10_part 2 10 := ⟨mo_X10_part, gb_in (by decide +kernel) (by decide +kernel), gb_in (by decide +kernel) (by decide +kernel), _, rfl, rfl⟩
set_option maxRecDepth 100000 in
theorem mo_X10_pen : MO mX10_pen 2 := ⟨gb_in (List.mem_of_getElem? (i := 1166) (by rfl)) (by decide +kernel), gb_in (by decide +kernel) (by decide +kernel), by decide +kernel, by decide +kernel, by decide +kernel⟩
set_option maxRecDepth 100000 in
theorem mv_X10_pen : MV mX10_pen 2 10 := ⟨mo_X10_pen, gb_in (by decide +kernel) (by decide +kernel), gb_in (by decide +kernel) (by decide +kernel), _, rfl, rfl⟩
set_option maxRecDepth 100000 in
theorem mo_X10_refused : MO mX10_refused 1 := ⟨gb_in (List.mem_of_getElem? (i := 602) (by rfl)) (by decide +kernel), gb_in (by decide +kernel) (by decide +kernel), by decide +kernel, by decide +kernel, by decide +kernel⟩
set_option maxRecDepth 100000 in
theorem mv_X10_refused : MV mX10_refused 1 10 := ⟨mo_X10_refused, gb_in (by decide +kernel) (by decide +kernel), gb_in (by decide +kernel) (by decide +kernel), _, rfl, rfl⟩
set_option maxRecDepth 100000 in
theorem mo_X10_ride : MO mX10_ride 2 := ⟨gb_in (List.mem_of_getElem? (i := 1061) (by rfl)) (by decide +kernel), gb_in (by decide +kernel) (by decide +kernel), by decide +kernel, by decide +kernel, by decide +kernel⟩
set_option maxRecDepth 100000 in
theorem mv_X10_ride : MV mX10_ride 2 10 := ⟨mo_X10_ride, gb_in (by decide +kernel) (by decide +kernel), gb_in (by decide +kernel) (by decide +kernel), _, rfl, rfl⟩
set_option maxRecDepth 100000 in
theorem mo_X10_rides : MO mX10_rides 1 := ⟨gb_in (List.mem_of_getElem? (i := 1204) (by rfl)) (by decide +kernel), gb_in (by decide +kernel) (by decide +kernel), by decide +kernel, by decide +kernel, by decide +kernel⟩
set_option maxRecDepth 100000 in
theorem mv_X10_rides : MV mX10_rides 1 10 := ⟨mo_X10_rides, gb_in (by decide +kernel) (by decide +kernel), gb_in (by decide +kernel) (by decide +kernel), _, rfl, rfl⟩
set_option maxRecDepth 100000 in
theorem mo_X10_sheet : MO mX10_sheet 1 := ⟨gb_in (List.mem_of_getElem? (i := 598) (by rfl)) (by decide +kernel), gb_in (by decide +kernel) (by decide +kernel), by decide +kernel, by decide +kernel, by decide +kernel⟩
set_option maxRecDepth 100000 in
theorem mv_X10_sheet : MV mX10_sheet 1 10 := ⟨mo_X10_sheet, gb_in (by decide +kernel) (by decide +kernel), gb_in (by decide +kernel) (by decide +kernel), _, rfl, rfl⟩
set_option maxRecDepth 100000 in
theorem mo_X10_size : MO mX10_size 1 := ⟨gb_in (List.mem_of_getElem? (i := 1302) (by rfl)) (by decide +kernel), gb_in (by decide +kernel) (by decide +kernel), by decide +kernel, by decide +kernel, by decide +kernel⟩
set_option maxRecDepth 100000 in
theorem mv_X10_size : MV mX10_size 1 10 := ⟨mo_X10_size, gb_in (by decide +kernel) (by decide +kernel), gb_in (by decide +kernel) (by decide +kernel), _, rfl, rfl⟩
set_option maxRecDepth 100000 in
theorem mo_X10_startPlan : MO mX10_startPlan 0 := ⟨gb_in (List.mem_of_getElem? (i := 734) (by rfl)) (by decide +kernel), gb_in (by decide +kernel) (by decide +kernel), by decide +kernel, by decide +kernel, by decide +kernel⟩
set_option maxRecDepth 100000 in
theorem mv_X10_startPlan : MV mX10_startPlan 0 10 := ⟨mo_X10_startPlan, gb_in (by decide +kernel) (by decide +kernel), gb_in (by decide +kernel) (by decide +kernel), _, rfl, rfl⟩
set_option maxRecDepth 100000 in
theorem mo_X10_started : MO mX10_started 0 := ⟨gb_in (List.mem_of_getElem? (i := 1096) (by rfl)) (by decide +kernel), gb_in (by decide +kernel) (by decide +kernel), by decide +kernel, by decide +kernel, by decide +kernel⟩
set_option maxRecDepth 100000 in
theorem mv_X10_started : MV mX10_started 0 10 := ⟨mo_X10_started, gb_in (by decide +kernel) (by decide +kernel), gb_in (by decide +kernel) (by decide +kernel), _, rfl, rfl⟩
set_option maxRecDepth 100000 in
theorem mo_X10_stroke : MO mX10_stroke 2 := ⟨gb_in (List.mem_of_getElem? (i := 978) (by rfl)) (by decide +kernel), gb_in (by decide +kernel) (by decide +kernel), by decide +kernel, by decide +kernel, by decide +kernel⟩
set_option maxRecDepth 100000 in
theorem mv_X10_stroke : MV mX10_stroke 2 10 := ⟨mo_X10_stroke, gb_in (by decide +kernel) (by decide +kernel), gb_in (by decide +kernel) (by decide +kernel), _, rfl, rfl⟩
set_option maxRecDepth 100000 in
theorem mo_X10_time : MO mX10_time 0 := ⟨gb_in (List.mem_of_getElem? (i := 1152) (by rfl)) (by decide +kernel), gb_in (by decide +kernel) (by decide +kernel), by decide +kernel, by decide +kernel, by decide +kernel⟩
set_option maxRecDepth 100000 in
theorem mv_X10_time : MV mX10_time 0 10 := ⟨mo_X10_time, gb_in (by decide +kernel) (by decide +kernel), gb_in (by decide +kernel) (by decide +kernel), _, rfl, rfl⟩
set_option maxRecDepth 100000 in
theorem mo_X10_told : MO mX10_told 1 := ⟨gb_in (List.mem_of_getElem? (i := 955) (by rfl)) (by decide +kernel), gb_in (by decide +kernel) (by decide +kernel), by decide +kernel, by decide +kernel, by decide +kernel⟩
set_option maxRecDepth 100000 in
theorem mv_X10_told : MV mX10_told 1 10 := ⟨mo_X10_told, gb_in (by decide +kernel) (by decide +kernel), gb_in (by decide +kernel) (by decide +kernel), _, rfl, rfl⟩
set_option maxRecDepth 100000 in
theorem mo_X10_trail : MO mX10_trail 2 := ⟨gb_in (List.mem_of_getElem? (i := 1035) (by rfl)) (by decide +kernel), gb_in (by decide +kernel) (by decide +kernel), by decide +kernel, by decide +kernel, by decide +kernel⟩
set_option maxRecDepth 100000 in
theorem mv_X10_trail : MV mX10_trail 2 10 := ⟨mo_X10_trail, gb_in (by decide +kernel) (by decide +kernel), gb_in (by decide +kernel) (by decide +kernel), _, rfl, rfl⟩
set_option maxRecDepth 100000 in
theorem mo_X10_trailsOfOther : MO mX10_trailsOfOther 1 := ⟨gb_in (List.mem_of_getElem? (i := 1225) (by rfl)) (by decide +kernel), gb_in (by decide +kernel) (by decide +kernel), by decide +kernel, by decide +kernel, by decide +kernel⟩
set_option maxRecDepth 100000 in
theorem mv_X10_trailsOfOther : MV mX10_trailsOfOther 1 10 := ⟨mo_X10_trailsOfOther, gb_in (by decide +kernel) (by decide +kernel), gb_in (by decide +kernel) (by decide +kernel), _, rfl, rfl⟩
set_option maxRecDepth 100000 in
theorem mo_X10_travel : MO mX10_travel 0 := ⟨gb_in (List.mem_of_getElem? (i := 1073) (by rfl)) (by decide +kernel), gb_in (by decide +kernel) (by decide +kernel), by decide +kernel, by decide +kernel, by decide +kernel⟩
set_option maxRecDepth 100000 in
theorem mv_X10_travel : MV mX10_travel 0 10 := ⟨mo_X10_travel, gb_in (by decide +kernel) (by decide +kernel), gb_in (by decide +kernel) (by decide +kernel), _, rfl, rfl⟩
set_option maxRecDepth 100000 in
theorem mo_X10_trouble : MO mX10_trouble 0 := ⟨gb_in (List.mem_of_getElem? (i := 1306) (by rfl)) (by decide +kernel), gb_in (by decide +kernel) (by decide +kernel), by decide +kernel, by decide +kernel, by decide +kernel⟩
set_option maxRecDepth 100000 in
theorem mv_X10_trouble : MV mX10_trouble 0 10 := ⟨mo_X10_trouble, gb_in (by decide +kernel) (by decide +kernel), gb_in (by decide +kernel) (by decide +kernel), _, rfl, rfl⟩
set_option maxRecDepth 100000 in
theorem mo_X10_undo : MO mX10_undo 0 := ⟨gb_in (List.mem_of_getElem? (i := 1294) (by rfl)) (by decide +kernel), gb_in (by decide +kernel) (by decide +kernel), by decide +kernel, by decide +kernel, by decide +kernel⟩
set_option maxRecDepth 100000 in
theorem mv_X10_undo : MV mX10_undo 0 10 := ⟨mo_X10_undo, gb_in (by decide +kernel) (by decide +kernel), gb_in (by decide +kernel) (by decide +kernel), _, rfl, rfl⟩
set_option maxRecDepth 100000 in
theorem mo_X10_walk : MO mX10_walk 2 := ⟨gb_in (List.mem_of_getElem? (i := 1029) (by rfl)) (by decide +kernel), gb_in (by decide +kernel) (by decide +kernel), by decide +kernel, by decide +kernel, by decide +kernel⟩
set_option maxRecDepth 100000 in
theorem mv_X10_walk : MV mX10_walk 2 10 := ⟨mo_X10_walk, gb_in (by decide +kernel) (by decide +kernel), gb_in (by decide +kernel) (by decide +kernel), _, rfl, rfl⟩
set_option maxRecDepth 100000 in
theorem mo_X10_where : MO mX10_where 0 := ⟨gb_in (List.mem_of_getElem? (i := 964) (by rfl)) (by decide +kernel), gb_in (by decide +kernel) (by decide +kernel), by decide +kernel, by decide +kernel, by decide +kernel⟩
set_option maxRecDepth 100000 in
theorem mv_X10_where : MV mX10_where 0 10 := ⟨mo_X10_where, gb_in (by decide +kernel) (by decide +kernel), gb_in (by decide +kernel) (by decide +kernel), _, rfl, rfl⟩
set_option maxRecDepth 100000 in
theorem mo_X10_whyNoStroke : MO mX10_whyNoStroke 4 := ⟨gb_in (List.mem_of_getElem? (i := 1216) (by rfl)) (by decide +kernel), gb_in (by decide +kernel) (by decide +kernel), by decide +kernel, by decide +kernel, by decide +kernel⟩
set_option maxRecDepth 100000 in
theorem mv_X10_whyNoStroke : MV mX10_whyNoStroke 4 10 := ⟨mo_X10_whyNoStroke, gb_in (by decide +kernel) (by decide +kernel), gb_in (by decide +kernel) (by decide +kernel), _, rfl, rfl⟩
set_option maxRecDepth 100000 in
theorem mo_X10_worst : MO mX10_worst 0 := ⟨gb_in (List.mem_of_getElem? (i := 1234) (by rfl)) (by decide +kernel), gb_in (by decide +kernel) (by decide +kernel), by decide +kernel, by decide +kernel, by decide +kernel⟩
set_option maxRecDepth 100000 in
theorem mv_X10_worst : MV mX10_worst 0 10 := ⟨mo_X10_worst, gb_in (by decide +kernel) (by decide +kernel), gb_in (by decide +kernel) (by decide +kernel), _, rfl, rfl⟩
set_option maxRecDepth 100000 in
theorem mo_X10_would : MO mX10_would 4 := ⟨gb_in (List.mem_of_getElem? (i := 1212) (by rfl)) (by decide +kernel), gb_in (by decide +kernel) (by decide +kernel), by decide +kernel, by decide +kernel, by decide +kernel⟩
set_option maxRecDepth 100000 in
theorem mv_X10_would : MV mX10_would 4 10 := ⟨mo_X10_would, gb_in (by decide +kernel) (by decide +kernel), gb_in (by decide +kernel) (by decide +kernel), _, rfl, rfl⟩
set_option maxRecDepth 100000 in
theorem mo_X11_about : MO mX11_about 1 := ⟨gb_in (List.mem_of_getElem? (i := 1732) (by rfl)) (by decide +kernel), gb_in (by decide +kernel) (by decide +kernel), by decide +kernel, by decide +kernel, by decide +kernel⟩
set_option maxRecDepth 100000 in
theorem mv_X11_about : MV mX11_about 1 11 := ⟨mo_X11_about, gb_in (by decide +kernel) (by decide +kernel), gb_in (by decide +kernel) (by decide +kernel), _, rfl, rfl⟩
set_option maxRecDepth 100000 in
theorem mo_X11_abs : MO mX11_abs 1 := ⟨gb_in (List.mem_of_getElem? (i := 1661) (by rfl)) (by decide +kernel), gb_in (by decide +kernel) (by decide +kernel), by decide +kernel, by decide +kernel, by decide +kernel⟩
set_option maxRecDepth 100000 in
theorem ms_X11_abs : MS mX11_abs 1 := ⟨mo_X11_abs, gb_in (by decide +kernel) (by decide +kernel)⟩
set_option maxRecDepth 100000 in
theorem mo_X11_across : MO mX11_across 2 := ⟨gb_in (List.mem_of_getElem? (i := 1716) (by rfl)) (by decide +kernel), gb_in (by decide +kernel) (by decide +kernel), by decide +kernel, by decide +kernel, by decide +kernel⟩
set_option maxRecDepth 100000 in
theorem mv_X11_across : MV mX11_across 2 11 := ⟨mo_X11_across, gb_in (by decide +kernel) (by decide +kernel), gb_in (by decide +kernel) (by decide +kernel), _, rfl, rfl⟩
set_option maxRecDepth 100000 in
theorem mo_X11_add : MO mX11_add 4 := ⟨gb_in (List.mem_of_getElem? (i := 1948) (by rfl)) (by decide +kernel), gb_in (by decide +kernel) (by decide +kernel), by decide +kernel, by decide +kernel, by decide +kernel⟩
set_option maxRecDepth 100000 in
theorem mv_X11_add : MV mX11_add 4 11 := ⟨mo_X11_add, gb_in (by decide +kernel) (by decide +kernel), gb_in (by decide +kernel) (by decide +kernel), _, rfl, rfl⟩
set_option maxRecDepth 100000 in
theorem mo_X11_after : MO mX11_after 4 := ⟨gb_in (List.mem_of_getElem? (i := 1611) (by rfl)) (by decide +kernel), gb_in (by decide +kernel) (by decide +kernel), by decide +kernel, by decide +kernel, by decide +kernel⟩
set_option maxRecDepth 100000 in
theorem mv_X11_after : MV mX11_after 4 11 := ⟨mo_X11_after, gb_in (by decide +kernel) (by decide +kernel), gb_in (by decide +kernel) (by decide +kernel), _, rfl, rfl⟩
set_option maxRecDepth 100000 in
theorem mo_X11_allTime : MO mX11_allTime 0 := ⟨gb_in (List.mem_of_getElem? (i := 1888) (by rfl)) (by decide +kernel), gb_in (by decide +kernel) (by decide +kernel), by decide +kernel, by decide +kernel, by decide +kernel⟩
set_option maxRecDepth 100000 in
theorem mv_X11_allTime : MV mX11_allTime 0 11 := ⟨mo_X11_allTime, gb_in (by decide +kernel) (by decide +kernel), gb_in (by decide +kernel) (by decide +kernel), _, rfl, rfl⟩
set_option maxRecDepth 100000 in
theorem mo_X11_apart : MO mX11_apart 2 := ⟨gb_in (List.mem_of_getElem? (i := 1654) (by rfl)) (by decide +kernel), gb_in (by decide +kernel) (by decide +kernel), by decide +kernel, by decide +kernel, by decide +kernel⟩
set_option maxRecDepth 100000 in
theorem mv_X11_apart : MV mX11_apart 2 11 := ⟨mo_X11_apart, gb_in (by decide +kernel) (by decide +kernel), gb_in (by decide +kernel) (by decide +kernel), _, rfl, rfl⟩
set_option maxRecDepth 100000 in
theorem mo_X11_better : MO mX11_better 1 := ⟨gb_in (List.mem_of_getElem? (i := 1851) (by rfl)) (by decide +kernel), gb_in (by decide +kernel) (by decide +kernel), by decide +kernel, by decide +kernel, by decide +kernel⟩
set_option maxRecDepth 100000 in
theorem mv_X11_better : MV mX11_better 1 11 := ⟨mo_X11_better, gb_in (by decide +kernel) (by decide +kernel), gb_in (by decide +kernel) (by decide +kernel), _, rfl, rfl⟩
set_option maxRecDepth 100000 in
theorem mo_X11_betters : MO mX11_betters 0 := ⟨gb_in (List.mem_of_getElem? (i := 1855) (by rfl)) (by decide +kernel), gb_in (by decide +kernel) (by decide +kernel), by decide +kernel, by decide +kernel, by decide +kernel⟩
set_option maxRecDepth 100000 in
theorem mv_X11_betters : MV mX11_betters 0 11 := ⟨mo_X11_betters, gb_in (by decide +kernel) (by decide +kernel), gb_in (by decide +kernel) (by decide +kernel), _, rfl, rfl⟩
set_option maxRecDepth 100000 in
theorem mo_X11_branch : MO mX11_branch 2 := ⟨gb_in (List.mem_of_getElem? (i := 1880) (by rfl)) (by decide +kernel), gb_in (by decide +kernel) (by decide +kernel), by decide +kernel, by decide +kernel, by decide +kernel⟩
set_option maxRecDepth 100000 in
theorem mv_X11_branch : MV mX11_branch 2 11 := ⟨mo_X11_branch, gb_in (by decide +kernel) (by decide +kernel), gb_in (by decide +kernel) (by decide +kernel), _, rfl, rfl⟩
set_option maxRecDepth 100000 in
theorem mo_X11_comes : MO mX11_comes 4 := ⟨gb_in (List.mem_of_getElem? (i := 1921) (by rfl)) (by decide +kernel), gb_in (by decide +kernel) (by decide +kernel), by decide +kernel, by decide +kernel, by decide +kernel⟩
set_option maxRecDepth 100000 in
theorem mv_X11_comes : MV mX11_comes 4 11 := ⟨mo_X11_comes, gb_in (by decide +kernel) (by decide +kernel), gb_in (by decide +kernel) (by decide +kernel), _, rfl, rfl⟩
set_option maxRecDepth 100000 in
theorem mo_X11_copies : MO mX11_copies 4 := ⟨gb_in (List.mem_of_getElem? (i := 1638) (by rfl)) (by decide +kernel), gb_in (by decide +kernel) (by decide +kernel), by decide +kernel, by decide +kernel, by decide +kernel⟩
set_option maxRecDepth 100000 in
theorem ms_X11_copies : MS mX11_copies 4 := ⟨mo_X11_copies, gb_in (by decide +kernel) (by decide +kernel)⟩
set_option maxRecDepth 100000 in
theorem mo_X11_drop : MO mX11_drop 1 := ⟨gb_in (List.mem_of_getElem? (i := 1956) (by rfl)) (by decide +kernel), gb_in (by decide +kernel) (by decide +kernel), by decide +kernel, by decide +kernel, by decide +kernel⟩
set_option maxRecDepth 100000 in
theorem mv_X11_drop : MV mX11_drop 1 11 := ⟨mo_X11_drop, gb_in (by decide +kernel) (by decide +kernel), gb_in (by decide +kernel) (by decide +kernel), _, rfl, rfl⟩
set_option maxRecDepth 100000 in
theorem mo_X11_endAt : MO mX11_endAt 1 := ⟨gb_in (List.mem_of_getElem? (i := 1799) (by rfl)) (by decide +kernel), gb_in (by decide +kernel) (by decide +kernel), by decide +kernel, by decide +kernel, by decide +kernel⟩
set_option maxRecDepth 100000 in
theorem mv_X11_endAt : MV mX11_endAt 1 11 := ⟨mo_X11_endAt, gb_in (by decide +kernel) (by decide +kernel), gb_in (by decide +kernel) (by decide +kernel), _, rfl, rfl⟩
set_option maxRecDepth 100000 in
theorem mo_X11_endX : MO mX11_endX 1 := ⟨gb_in (List.mem_of_getElem? (i := 1658) (by rfl)) (by decide +kernel), gb_in (by decide +kernel) (by decide +kernel), by decide +kernel, by decide +kernel, by decide +kernel⟩
set_option maxRecDepth 100000 in
theorem mv_X11_endX : MV mX11_endX 1 11 := ⟨mo_X11_endX, gb_in (by decide +kernel) (by decide +kernel), gb_in (by decide +kernel) (by decide +kernel), _, rfl, rfl⟩
set_option maxRecDepth 100000 in
theorem mo_X11_endY : MO mX11_endY 1 := ⟨gb_in (List.mem_of_getElem? (i := 1665) (by rfl)) (by decide +kernel), gb_in (by decide +kernel) (by decide +kernel), by decide +kernel, by decide +kernel, by decide +kernel⟩
set_option maxRecDepth 100000 in
theorem mv_X11_endY : MV mX11_endY 1 11 := ⟨mo_X11_endY, gb_in (by decide +kernel) (by decide +kernel), gb_in (by decide +kernel) (by decide +kernel), _, rfl, rfl⟩
set_option maxRecDepth 100000 in
theorem mo_X11_enough : MO mX11_enough 1 := ⟨gb_in (List.mem_of_getElem? (i := 1941) (by rfl)) (by decide +kernel), gb_in (by decide +kernel) (by decide +kernel), by decide +kernel, by decide +kernel, by decide +kernel⟩
set_option maxRecDepth 100000 in
theorem mv_X11_enough : MV mX11_enough 1 11 := ⟨mo_X11_enough, gb_in (by decide +kernel) (by decide +kernel), gb_in (by decide +kernel) (by decide +kernel), _, rfl, rfl⟩
set_option maxRecDepth 100000 in
theorem mo_X11_errs : MO mX11_errs 1 := ⟨gb_in (List.mem_of_getElem? (i := 1606) (by rfl)) (by decide +kernel), gb_in (by decide +kernel) (by decide +kernel), by decide +kernel, by decide +kernel, by decide +kernel⟩
set_option maxRecDepth 100000 in
theorem mv_X11_errs : MV mX11_errs 1 11 := ⟨mo_X11_errs, gb_in (by decide +kernel) (by decide +kernel), gb_in (by decide +kernel) (by decide +kernel), _, rfl, rfl⟩
set_option maxRecDepth 100000 in
theorem mo_X11_exchange : MO mX11_exchange 2 := ⟨gb_in (List.mem_of_getElem? (i := 1972) (by rfl)) (by decide +kernel), gb_in (by decide +kernel) (by decide +kernel), by decide +kernel, by decide +kernel, by decide +kernel⟩
set_option maxRecDepth 100000 in
theorem mv_X11_exchange : MV mX11_exchange 2 11 := ⟨mo_X11_exchange, gb_in (by decide +kernel) (by decide +kernel), gb_in (by decide +kernel) (by decide +kernel), _, rfl, rfl⟩
set_option maxRecDepth 100000 in
theorem mo_X11_exchanged : MO mX11_exchanged 2 := ⟨gb_in (List.mem_of_getElem? (i := 1867) (by rfl)) (by decide +kernel), gb_in (by decide +kernel) (by decide +kernel), by decide +kernel, by decide +kernel, by decide +kernel⟩
set_option maxRecDepth 100000 in
theorem mv_X11_exchanged : MV mX11_exchanged 2 11 := ⟨mo_X11_exchanged, gb_in (by decide +kernel) (by decide +kernel), gb_in (by decide +kernel) (by decide +kernel), _, rfl, rfl⟩
set_option maxRecDepth 100000 in
theorem mo_X11_exchanges : MO mX11_exchanges 2 := ⟨gb_in (List.mem_of_getElem? (i := 1863) (by rfl)) (by decide +kernel), gb_in (by decide +kernel) (by decide +kernel), by decide +kernel, by decide +kernel, by decide +kernel⟩
set_option maxRecDepth 100000 in
theorem mv_X11_exchanges : MV mX11_exchanges 2 11 := ⟨mo_X11_exchanges, gb_in (by decide +kernel) (by decide +kernel), gb_in (by decide +kernel) (by decide +kernel), _, rfl, rfl⟩
set_option maxRecDepth 100000 in
theorem mo_X11_far : MO mX11_far 2 := ⟨gb_in (List.mem_of_getElem? (i := 1696) (by rfl)) (by decide +kernel), gb_in (by decide +kernel) (by decide +kernel), by decide +kernel, by decide +kernel, by decide +kernel⟩
set_option maxRecDepth 100000 in
theorem mv_X11_far : MV mX11_far 2 11 := ⟨mo_X11_far, gb_in (by decide +kernel) (by decide +kernel), gb_in (by decide +kernel) (by decide +kernel), _, rfl, rfl⟩
set_option maxRecDepth 100000 in
theorem mo_X11_farOf : MO mX11_farOf 1 := ⟨gb_in (List.mem_of_getElem? (i := 1700) (by rfl)) (by decide +kernel), gb_in (by decide +kernel) (by decide +kernel), by decide +kernel, by decide +kernel, by decide +kernel⟩
set_option maxRecDepth 100000 in
theorem mv_X11_farOf : MV mX11_farOf 1 11 := ⟨mo_X11_farOf, gb_in (by decide +kernel) (by decide +kernel), gb_in (by decide +kernel) (by decide +kernel), _, rfl, rfl⟩
set_option maxRecDepth 100000 in
theorem mo_X11_farthest : MO mX11_farthest 0 := ⟨gb_in (List.mem_of_getElem? (i := 1905) (by rfl)) (by decide +kernel), gb_in (by decide +kernel) (by decide +kernel), by decide +kernel, by decide +kernel, by decide +kernel⟩
set_option maxRecDepth 100000 in
theorem mv_X11_farthest : MV mX11_farthest 0 11 := ⟨mo_X11_farthest, gb_in (by decide +kernel) (by decide +kernel), gb_in (by decide +kernel) (by decide +kernel), _, rfl, rfl⟩
set_option maxRecDepth 100000 in
theorem mo_X11_fault : MO mX11_fault 0 := ⟨gb_in (List.mem_of_getElem? (i := 1724) (by rfl)) (by decide +kernel), gb_in (by decide +kernel) (by decide +kernel), by decide +kernel, by decide +kernel, by decide +kernel⟩
set_option maxRecDepth 100000 in
theorem mv_X11_fault : MV mX11_fault 0 11 := ⟨mo_X11_fault, gb_in (by decide +kernel) (by decide +kernel), gb_in (by decide +kernel) (by decide +kernel), _, rfl, rfl⟩
set_option maxRecDepth 100000 in
theorem mo_X11_feed : MO mX11_feed 5 := ⟨gb_in (List.mem_of_getElem? (i := 1560) (by rfl)) (by decide +kernel), gb_in (by decide +kernel) (by decide +kernel), by decide +kernel, by decide +kernel, by decide +kernel⟩
set_option maxRecDepth 100000 in
theorem mv_X11_feed : MV mX11_feed 5 11 := ⟨mo_X11_feed, gb_in (by decide +kernel) (by decide +kernel), gb_in (by decide +kernel) (by decide +kernel), _, rfl, rfl⟩
set_option maxRecDepth 100000 in
theorem mo_X11_floor : MO mX11_floor 0 := ⟨gb_in (List.mem_of_getElem? (i := 1876) (by rfl)) (by decide +kernel), gb_in (by decide +kernel) (by decide +kernel), by decide +kernel, by decide +kernel, by decide +kernel⟩
set_option maxRecDepth 100000 in
theorem mv_X11_floor : MV mX11_floor 0 11 := ⟨mo_X11_floor, gb_in (by decide +kernel) (by decide +kernel), gb_in (by decide +kernel) (by decide +kernel), _, rfl, rfl⟩
set_option maxRecDepth 100000 in
theorem mo_X11_fromHome : MO mX11_fromHome 1 := ⟨gb_in (List.mem_of_getElem? (i := 1823) (by rfl)) (by decide +kernel), gb_in (by decide +kernel) (by decide +kernel), by decide +kernel, by decide +kernel, by decide +kernel⟩
set_option maxRecDepth 100000 in
theorem mv_X11_fromHome : MV mX11_fromHome 1 11 := ⟨mo_X11_fromHome, gb_in (by decide +kernel) (by decide +kernel), gb_in (by decide +kernel) (by decide +kernel), _, rfl, rfl⟩
set_option maxRecDepth 100000 in
theorem mo_X11_goesFrom : MO mX11_goesFrom 1 := ⟨gb_in (List.mem_of_getElem? (i := 1712) (by rfl)) (by decide +kernel), gb_in (by decide +kernel) (by decide +kernel), by decide +kernel, by decide +kernel, by decide +kernel⟩
set_option maxRecDepth 100000 in
theorem mv_X11_goesFrom : MV mX11_goesFrom 1 11 := ⟨mo_X11_goesFrom, gb_in (by decide +kernel) (by decide +kernel), gb_in (by decide +kernel) (by decide +kernel), _, rfl, rfl⟩
set_option maxRecDepth 100000 in
theorem mo_X11_goesOn : MO mX11_goesOn 0 := ⟨gb_in (List.mem_of_getElem? (i := 1583) (by rfl)) (by decide +kernel), gb_in (by decide +kernel) (by decide +kernel), by decide +kernel, by decide +kernel, by decide +kernel⟩
set_option maxRecDepth 100000 in
theorem mv_X11_goesOn : MV mX11_goesOn 0 11 := ⟨mo_X11_goesOn, gb_in (by decide +kernel) (by decide +kernel), gb_in (by decide +kernel) (by decide +kernel), _, rfl, rfl⟩
set_option maxRecDepth 100000 in
theorem mo_X11_goesTill : MO mX11_goesTill 1 := ⟨gb_in (List.mem_of_getElem? (i := 1897) (by rfl)) (by decide +kernel), gb_in (by decide +kernel) (by decide +kernel), by decide +kernel, by decide +kernel, by decide +kernel⟩
set_option maxRecDepth 100000 in
theorem mv_X11_goesTill : MV mX11_goesTill 1 11 := ⟨mo_X11_goesTill, gb_in (by decide +kernel) (by decide +kernel), gb_in (by decide +kernel) (by decide +kernel), _, rfl, rfl⟩
set_option maxRecDepth 100000 in
theorem mo_X11_home : MO mX11_home 2 := ⟨gb_in (List.mem_of_getElem? (i := 1960) (by rfl)) (by decide +kernel), gb_in (by decide +kernel) (by decide +kernel), by decide +kernel, by decide +kernel, by decide +kernel⟩
set_option maxRecDepth 100000 in
theorem mv_X11_home : MV mX11_home 2 11 := ⟨mo_X11_home, gb_in (by decide +kernel) (by decide +kernel), gb_in (by decide +kernel) (by decide +kernel), _, rfl, rfl⟩
set_option maxRecDepth 100000 in
theorem mo_X11_improve : MO mX11_improve 0 := ⟨gb_in (List.mem_of_getElem? (i := 1976) (by rfl)) (by decide +kernel), gb_in (by decide +kernel) (by decide +kernel), by decide +kernel, by decide +kernel, by decide +kernel⟩
set_option maxRecDepth 100000 in
theorem mv_X11_improve : MV mX11_improve 0 11 := ⟨mo_X11_improve, gb_in (by decide +kernel) (by decide +kernel), gb_in (by decide +kernel) (by decide +kernel), _, rfl, rfl⟩
set_option maxRecDepth 100000 in
theorem mo_X11_in : MO mX11_in 3 := ⟨gb_in (List.mem_of_getElem? (i := 1571) (by rfl)) (by decide +kernel), gb_in (by decide +kernel) (by decide +kernel), by decide +kernel, by decide +kernel, by decide +kernel⟩
set_option maxRecDepth 100000 in
theorem ms_X11_in : MS mX11_in 3 := ⟨mo_X11_in, gb_in (by decide +kernel) (by decide +kernel)⟩
set_option maxRecDepth 100000 in
theorem mo_X11_isAsked : MO mX11_isAsked 1 := ⟨gb_in (List.mem_of_getElem? (i := 1736) (by rfl)) (by decide +kernel), gb_in (by decide +kernel) (by decide +kernel), by decide +kernel, by decide +kernel, by decide +kernel⟩
set_option maxRecDepth 100000 in
theorem mv_X11_isAsked : MV mX11_isAsked 1 11 := ⟨mo_X11_isAsked, gb_in (by decide +kernel) (by decide +kernel), gb_in (by decide +kernel) (by decide +kernel), _, rfl, rfl⟩
set_option maxRecDepth 100000 in
theorem mo_X11_isBettered : MO mX11_isBettered 0 := ⟨gb_in (List.mem_of_getElem? (i := 1859) (by rfl)) (by decide +kernel), gb_in (by decide +kernel) (by decide +kernel), by decide +kernel, by decide +kernel, by decide +kernel⟩
set_option maxRecDepth 100000 in
theorem mv_X11_isBettered : MV mX11_isBettered 0 11 := ⟨mo_X11_isBettered, gb_in (by decide +kernel) (by decide +kernel), gb_in (by decide +kernel) (by decide +kernel), _, rfl, rfl⟩
set_option maxRecDepth 100000 in
theorem mo_X11_isOdd : MO mX11_isOdd 1 := ⟨gb_in (List.mem_of_getElem? (i := 1680) (by rfl)) (by decide +kernel), gb_in (by decide +kernel) (by decide +kernel), by decide +kernel, by decide +kernel, by decide +kernel⟩
set_option maxRecDepth 100000 in
theorem mv_X11_isOdd : MV mX11_isOdd 1 11 := ⟨mo_X11_isOdd, gb_in (by decide +kernel) (by decide +kernel), gb_in (by decide +kernel) (by decide +kernel), _, rfl, rfl⟩
set_option maxRecDepth 100000 in
theorem mo_X11_isPoint : MO mX11_isPoint 2 := ⟨gb_in (List.mem_of_getElem? (i := 1917) (by rfl)) (by decide +kernel), gb_in (by decide +kernel) (by decide +kernel), by decide +kernel, by decide +kernel, by decide +kernel⟩
set_option maxRecDepth 100000 in
theorem mv_X11_isPoint : MV mX11_isPoint 2 11 := ⟨mo_X11_isPoint, gb_in (by decide +kernel) (by decide +kernel), gb_in (by decide +kernel) (by decide +kernel), _, rfl, rfl⟩
set_option maxRecDepth 100000 in
theorem mo_X11_isRefused : MO mX11_isRefused 1 := ⟨gb_in (List.mem_of_getElem? (i := 1575) (by rfl)) (by decide +kernel), gb_in (by decide +kernel) (by decide +kernel), by decide +kernel, by decide +kernel, by decide +kernel⟩
set_option maxRecDepth 100000 in
theorem mv_X11_isRefused : MV mX11_isRefused 1 11 := ⟨mo_X11_isRefused, gb_in (by decide +kernel) (by decide +kernel), gb_in (by decide +kernel) (by decide +kernel), _, rfl, rfl⟩
set_option maxRecDepth 100000 in
theorem mo_X11_isRun : MO mX11_isRun 2 := ⟨gb_in (List.mem_of_getElem? (i := 1871) (by rfl)) (by decide +kernel), gb_in (by decide +kernel) (by decide +kernel), by decide +kernel, by decide +kernel, by decide +kernel⟩
set_option maxRecDepth 100000 in
theorem mv_X11_isRun : MV mX11_isRun 2 11 := ⟨mo_X11_isRun, gb_in (by decide +kernel) (by decide +kernel), gb_in (by decide +kernel) (by decide +kernel), _, rfl, rfl⟩
set_option maxRecDepth 100000 in
theorem mo_X11_isTurned : MO mX11_isTurned 1 := ⟨gb_in (List.mem_of_getElem? (i := 1795) (by rfl)) (by decide +kernel), gb_in (by decide +kernel) (by decide +kernel), by decide +kernel, by decide +kernel, by decide +kernel⟩
set_option maxRecDepth 100000 in
theorem mv_X11_isTurned : MV mX11_isTurned 1 11 := ⟨mo_X11_isTurned, gb_in (by decide +kernel) (by decide +kernel), gb_in (by decide +kernel) (by decide +kernel), _, rfl, rfl⟩
set_option maxRecDepth 100000 in
theorem mo_X11_isWord : MO mX11_isWord 1 := ⟨gb_in (List.mem_of_getElem? (i := 1596) (by rfl)) (by decide +kernel), gb_in (by decide +kernel) (by decide +kernel), by decide +kernel, by decide +kernel, by decide +kernel⟩
set_option maxRecDepth 100000 in
theorem mv_X11_isWord : MV mX11_isWord 1 11 := ⟨mo_X11_isWord, gb_in (by decide +kernel) (by decide +kernel), gb_in (by decide +kernel) (by decide +kernel), _, rfl, rfl⟩
set_option maxRecDepth 100000 in
theorem mo_X11_join : MO mX11_join 1 := ⟨gb_in (List.mem_of_getElem? (i := 1964) (by rfl)) (by decide +kernel), gb_in (by decide +kernel) (by decide +kernel), by decide +kernel, by decide +kernel, by decide +kernel⟩
set_option maxRecDepth 100000 in
theorem mv_X11_join : MV mX11_join 1 11 := ⟨mo_X11_join, gb_in (by decide +kernel) (by decide +kernel), gb_in (by decide +kernel) (by decide +kernel), _, rfl, rfl⟩
set_option maxRecDepth 100000 in
theorem mo_X11_keeps : MO mX11_keeps 0 := ⟨gb_in (List.mem_of_getElem? (i := 1952) (by rfl)) (by decide +kernel), gb_in (by decide +kernel) (by decide +kernel), by decide +kernel, by decide +kernel, by decide +kernel⟩
set_option maxRecDepth 100000 in
theorem mv_X11_keeps : MV mX11_keeps 0 11 := ⟨mo_X11_keeps, gb_in (by decide +kernel) (by decide +kernel), gb_in (by decide +kernel) (by decide +kernel), _, rfl, rfl⟩
set_option maxRecDepth 100000 in
theorem mo_X11_lays : MO mX11_lays 3 := ⟨gb_in (List.mem_of_getElem? (i := 1615) (by rfl)) (by decide +kernel), gb_in (by decide +kernel) (by decide +kernel), by decide +kernel, by decide +kernel, by decide +kernel⟩
set_option maxRecDepth 100000 in
theorem mv_X11_lays : MV mX11_lays 3 11 := ⟨mo_X11_lays, gb_in (by decide +kernel) (by decide +kernel), gb_in (by decide +kernel) (by decide +kernel), _, rfl, rfl⟩
set_option maxRecDepth 100000 in
theorem mo_X11_laysAside : MO mX11_laysAside 0 := ⟨gb_in (List.mem_of_getElem? (i := 1843) (by rfl)) (by decide +kernel), gb_in (by decide +kernel) (by decide +kernel), by decide +kernel, by decide +kernel, by decide +kernel⟩
set_option maxRecDepth 100000 in
theorem mv_X11_laysAside : MV mX11_laysAside 0 11 := ⟨mo_X11_laysAside, gb_in (by decide +kernel) (by decide +kernel), gb_in (by decide +kernel) (by decide +kernel), _, rfl, rfl⟩
set_option maxRecDepth 100000 in
theorem mo_X11_laysMeetings : MO mX11_laysMeetings 0 := ⟨gb_in (List.mem_of_getElem? (i := 1650) (by rfl)) (by decide +kernel), gb_in (by decide +kernel) (by decide +kernel), by decide +kernel, by decide +kernel, by decide +kernel⟩
set_option maxRecDepth 100000 in
theorem mv_X11_laysMeetings : MV mX11_laysMeetings 0 11 := ⟨mo_X11_laysMeetings, gb_in (by decide +kernel) (by decide +kernel), gb_in (by decide +kernel) (by decide +kernel), _, rfl, rfl⟩
set_option maxRecDepth 100000 in
theorem mo_X11_laysPairs : MO mX11_laysPairs 0 := ⟨gb_in (List.mem_of_getElem? (i := 1676) (by rfl)) (by decide +kernel), gb_in (by decide +kernel) (by decide +kernel), by decide +kernel, by decide +kernel, by decide +kernel⟩
set_option maxRecDepth 100000 in
theorem mv_X11_laysPairs : MV mX11_laysPairs 0 11 := ⟨mo_X11_laysPairs, gb_in (by decide +kernel) (by decide +kernel), gb_in (by decide +kernel) (by decide +kernel), _, rfl, rfl⟩
set_option maxRecDepth 100000 in
theorem mo_X11_laysParts : MO mX11_laysParts 0 := ⟨gb_in (List.mem_of_getElem? (i := 1672) (by rfl)) (by decide +kernel), gb_in (by decide +kernel) (by decide +kernel), by decide +kernel, by decide +kernel, by decide +kernel⟩
set_option maxRecDepth 100000 in
theorem mv_X11_laysParts : MV mX11_laysParts 0 11 := ⟨mo_X11_laysParts, gb_in (by decide +kernel) (by decide +kernel), gb_in (by decide +kernel) (by decide +kernel), _, rfl, rfl⟩
set_option maxRecDepth 100000 in
theorem mo_X11_laysTrails : MO mX11_laysTrails 1 := ⟨gb_in (List.mem_of_getElem? (i := 1720) (by rfl)) (by decide +kernel), gb_in (by decide +kernel) (by decide +kernel), by decide +kernel, by decide +kernel, by decide +kernel⟩
set_option maxRecDepth 100000 in
theorem mv_X11_laysTrails : MV mX11_laysTrails 1 11 := ⟨mo_X11_laysTrails, gb_in (by decide +kernel) (by decide +kernel), gb_in (by decide +kernel) (by decide +kernel), _, rfl, rfl⟩
set_option maxRecDepth 100000 in
theorem mo_X11_laysWord : MO mX11_laysWord 1 := ⟨gb_in (List.mem_of_getElem? (i := 1564) (by rfl)) (by decide +kernel), gb_in (by decide +kernel) (by decide +kernel), by decide +kernel, by decide +kernel, by decide +kernel⟩
set_option maxRecDepth 100000 in
theorem mv_X11_laysWord : MV mX11_laysWord 1 11 := ⟨mo_X11_laysWord, gb_in (by decide +kernel) (by decide +kernel), gb_in (by decide +kernel) (by decide +kernel), _, rfl, rfl⟩
set_option maxRecDepth 100000 in
theorem mo_X11_leap : MO mX11_leap 1 := ⟨gb_in (List.mem_of_getElem? (i := 1819) (by rfl)) (by decide +kernel), gb_in (by decide +kernel) (by decide +kernel), by decide +kernel, by decide +kernel, by decide +kernel⟩
set_option maxRecDepth 100000 in
theorem mv_X11_leap : MV mX11_leap 1 11 := ⟨mo_X11_leap, gb_in (by decide +kernel) (by decide +kernel), gb_in (by decide +kernel) (by decide +kernel), _, rfl, rfl⟩
set_option maxRecDepth 100000 in
theorem mo_X11_leaps : MO mX11_leaps 0 := ⟨gb_in (List.mem_of_getElem? (i := 1835) (by rfl)) (by decide +kernel), gb_in (by decide +kernel) (by decide +kernel), by decide +kernel, by decide +kernel, by decide +kernel⟩
set_option maxRecDepth 100000 in
theorem mv_X11_leaps : MV mX11_leaps 0 11 := ⟨mo_X11_leaps, gb_in (by decide +kernel) (by decide +kernel), gb_in (by decide +kernel) (by decide +kernel), _, rfl, rfl⟩
set_option maxRecDepth 100000 in
theorem mo_X11_leaves : MO mX11_leaves 1 := ⟨gb_in (List.mem_of_getElem? (i := 1929) (by rfl)) (by decide +kernel), gb_in (by decide +kernel) (by decide +kernel), by decide +kernel, by decide +kernel, by decide +kernel⟩
set_option maxRecDepth 100000 in
theorem mv_X11_leaves : MV mX11_leaves 1 11 := ⟨mo_X11_leaves, gb_in (by decide +kernel) (by decide +kernel), gb_in (by decide +kernel) (by decide +kernel), _, rfl, rfl⟩
set_option maxRecDepth 100000 in
theorem mo_X11_lifts : MO mX11_lifts 0 := ⟨gb_in (List.mem_of_getElem? (i := 1815) (by rfl)) (by decide +kernel), gb_in (by decide +kernel) (by decide +kernel), by decide +kernel, by decide +kernel, by decide +kernel⟩
set_option maxRecDepth 100000 in
theorem mv_X11_lifts : MV mX11_lifts 0 11 := ⟨mo_X11_lifts, gb_in (by decide +kernel) (by decide +kernel), gb_in (by decide +kernel) (by decide +kernel), _, rfl, rfl⟩
set_option maxRecDepth 100000 in
theorem mo_X11_longOf : MO mX11_longOf 1 := ⟨gb_in (List.mem_of_getElem? (i := 1803) (by rfl)) (by decide +kernel), gb_in (by decide +kernel) (by decide +kernel), by decide +kernel, by decide +kernel, by decide +kernel⟩
set_option maxRecDepth 100000 in
theorem mv_X11_longOf : MV mX11_longOf 1 11 := ⟨mo_X11_longOf, gb_in (by decide +kernel) (by decide +kernel), gb_in (by decide +kernel) (by decide +kernel), _, rfl, rfl⟩
set_option maxRecDepth 100000 in
theorem mo_X11_longest : MO mX11_longest 0 := ⟨gb_in (List.mem_of_getElem? (i := 1901) (by rfl)) (by decide +kernel), gb_in (by decide +kernel) (by decide +kernel), by decide +kernel, by decide +kernel, by decide +kernel⟩
set_option maxRecDepth 100000 in
theorem mv_X11_longest : MV mX11_longest 0 11 := ⟨mo_X11_longest, gb_in (by decide +kernel) (by decide +kernel), gb_in (by decide +kernel) (by decide +kernel), _, rfl, rfl⟩
set_option maxRecDepth 100000 in
theorem mo_X11_loose : MO mX11_loose 1 := ⟨gb_in (List.mem_of_getElem? (i := 1984) (by rfl)) (by decide +kernel), gb_in (by decide +kernel) (by decide +kernel), by decide +kernel, by decide +kernel, by decide +kernel⟩
set_option maxRecDepth 100000 in
theorem mv_X11_loose : MV mX11_loose 1 11 := ⟨mo_X11_loose, gb_in (by decide +kernel) (by decide +kernel), gb_in (by decide +kernel) (by decide +kernel), _, rfl, rfl⟩
set_option maxRecDepth 100000 in
theorem mo_X11_lowest : MO mX11_lowest 1 := ⟨gb_in (List.mem_of_getElem? (i := 1691) (by rfl)) (by decide +kernel), gb_in (by decide +kernel) (by decide +kernel), by decide +kernel, by decide +kernel, by decide +kernel⟩
set_option maxRecDepth 100000 in
theorem ms_X11_lowest : MS mX11_lowest 1 := ⟨mo_X11_lowest, gb_in (by decide +kernel) (by decide +kernel)⟩
set_option maxRecDepth 100000 in
theorem mo_X11_meeting : MO mX11_meeting 2 := ⟨gb_in (List.mem_of_getElem? (i := 1751) (by rfl)) (by decide +kernel), gb_in (by decide +kernel) (by decide +kernel), by decide +kernel, by decide +kernel, by decide +kernel⟩
set_option maxRecDepth 100000 in
theorem mv_X11_meeting : MV mX11_meeting 2 11 := ⟨mo_X11_meeting, gb_in (by decide +kernel) (by decide +kernel), gb_in (by decide +kernel) (by decide +kernel), _, rfl, rfl⟩
set_option maxRecDepth 100000 in
theorem mo_X11_meetingsOf : MO mX11_meetingsOf 2 := ⟨gb_in (List.mem_of_getElem? (i := 1759) (by rfl)) (by decide +kernel), gb_in (by decide +kernel) (by decide +kernel), by decide +kernel, by decide +kernel, by decide +kernel⟩
set_option maxRecDepth 100000 in
theorem mv_X11_meetingsOf : MV mX11_meetingsOf 2 11 := ⟨mo_X11_meetingsOf, gb_in (by decide +kernel) (by decide +kernel), gb_in (by decide +kernel) (by decide +kernel), _, rfl, rfl⟩
set_option maxRecDepth 100000 in
theorem mo_X11_nearest : MO mX11_nearest 0 := ⟨gb_in (List.mem_of_getElem? (i := 1933) (by rfl)) (by decide +kernel), gb_in (by decide +kernel) (by decide +kernel), by decide +kernel, by decide +kernel, by decide +kernel⟩
set_option maxRecDepth 100000 in
theorem mv_X11_nearest : MV mX11_nearest 0 11 := ⟨mo_X11_nearest, gb_in (by decide +kernel) (by decide +kernel), gb_in (by decide +kernel) (by decide +kernel), _, rfl, rfl⟩
set_option maxRecDepth 100000 in
theorem mo_X11_nextWay : MO mX11_nextWay 1 := ⟨gb_in (List.mem_of_getElem? (i := 1708) (by rfl)) (by decide +kernel), gb_in (by decide +kernel) (by decide +kernel), by decide +kernel, by decide +kernel, by decide +kernel⟩
set_option maxRecDepth 100000 in
theorem mv_X11_nextWay : MV mX11_nextWay 1 11 := ⟨mo_X11_nextWay, gb_in (by decide +kernel) (by decide +kernel), gb_in (by decide +kernel) (by decide +kernel), _, rfl, rfl⟩
set_option maxRecDepth 100000 in
theorem mo_X11_no : MO mX11_no 1 := ⟨gb_in (List.mem_of_getElem? (i := 1635) (by rfl)) (by decide +kernel), gb_in (by decide +kernel) (by decide +kernel), by decide +kernel, by decide +kernel, by decide +kernel⟩
set_option maxRecDepth 100000 in
theorem mv_X11_no : MV mX11_no 1 11 := ⟨mo_X11_no, gb_in (by decide +kernel) (by decide +kernel), gb_in (by decide +kernel) (by decide +kernel), _, rfl, rfl⟩
set_option maxRecDepth 100000 in
theorem mo_X11_numbers : MO mX11_numbers 2 := ⟨gb_in (List.mem_of_getElem? (i := 1668) (by rfl)) (by decide +kernel), gb_in (by decide +kernel) (by decide +kernel), by decide +kernel, by decide +kernel, by decide +kernel⟩
set_option maxRecDepth 100000 in
theorem ms_X11_numbers : MS mX11_numbers 2 := ⟨mo_X11_numbers, gb_in (by decide +kernel) (by decide +kernel)⟩
set_option maxRecDepth 100000 in
theorem mo_X11_oddAll : MO mX11_oddAll 0 := ⟨gb_in (List.mem_of_getElem? (i := 1743) (by rfl)) (by decide +kernel), gb_in (by decide +kernel) (by decide +kernel), by decide +kernel, by decide +kernel, by decide +kernel⟩
set_option maxRecDepth 100000 in
theorem mv_X11_oddAll : MV mX11_oddAll 0 11 := ⟨mo_X11_oddAll, gb_in (by decide +kernel) (by decide +kernel), gb_in (by decide +kernel) (by decide +kernel), _, rfl, rfl⟩
set_option maxRecDepth 100000 in
theorem mo_X11_pace : MO mX11_pace 2 := ⟨gb_in (List.mem_of_getElem? (i := 1968) (by rfl)) (by decide +kernel), gb_in (by decide +kernel) (by decide +kernel), by decide +kernel, by decide +kernel, by decide +kernel⟩
set_option maxRecDepth 100000 in
theorem mv_X11_pace : MV mX11_pace 2 11 := ⟨mo_X11_pace, gb_in (by decide +kernel) (by decide +kernel), gb_in (by decide +kernel) (by decide +kernel), _, rfl, rfl⟩
set_option maxRecDepth 100000 in
theorem mo_X11_pair : MO mX11_pair 2 := ⟨gb_in (List.mem_of_getElem? (i := 1775) (by rfl)) (by decide +kernel), gb_in (by decide +kernel) (by decide +kernel), by decide +kernel, by decide +kernel, by decide +kernel⟩
set_option maxRecDepth 100000 in
theorem mv_X11_pair : MV mX11_pair 2 11 := ⟨mo_X11_pair, gb_in (by decide +kernel) (by decide +kernel), gb_in (by decide +kernel) (by decide +kernel), _, rfl, rfl⟩
set_option maxRecDepth 100000 in
theorem mo_X11_pairs : MO mX11_pairs 3 := ⟨gb_in (List.mem_of_getElem? (i := 1684) (by rfl)) (by decide +kernel), gb_in (by decide +kernel) (by decide +kernel), by decide +kernel, by decide +kernel, by decide +kernel⟩
set_option maxRecDepth 100000 in
theorem mv_X11_pairs : MV mX11_pairs 3 11 := ⟨mo_X11_pairs, gb_in (by decide +kernel) (by decide +kernel), gb_in (by decide +kernel) (by decide +kernel), _, rfl, rfl⟩
set_option maxRecDepth 100000 in
theorem mo_X11_pairsBest : MO mX11_pairsBest 1 := ⟨gb_in (List.mem_of_getElem? (i := 1688) (by rfl)) (by decide +kernel), gb_in (by decide +kernel) (by decide +kernel), by decide +kernel, by decide +kernel, by decide +kernel⟩
set_option maxRecDepth 100000 in
theorem mv_X11_pairsBest : MV mX11_pairsBest 1 11 := ⟨mo_X11_pairsBest, gb_in (by decide +kernel) (by decide +kernel), gb_in (by decide +kernel) (by decide +kernel), _, rfl, rfl⟩
set_option maxRecDepth 100000 in
theorem mo_X11_pairsOf : MO mX11_pairsOf 1 := ⟨gb_in (List.mem_of_getElem? (i := 1771) (by rfl)) (by decide +kernel), gb_in (by decide +kernel) (by decide +kernel), by decide +kernel, by decide +kernel, by decide +kernel⟩
set_option maxRecDepth 100000 in
theorem mv_X11_pairsOf : MV mX11_pairsOf 1 11 := ⟨mo_X11_pairsOf, gb_in (by decide +kernel) (by decide +kernel), gb_in (by decide +kernel) (by decide +kernel), _, rfl, rfl⟩
set_option maxRecDepth 100000 in
theorem mo_X11_part : MO mX11_part 2 := ⟨gb_in (List.mem_of_getElem? (i := 1755) (by rfl)) (by decide +kernel), gb_in (by decide +kernel) (by decide +kernel), by decide +kernel, by decide +kernel, by decide +kernel⟩
set_option maxRecDepth 100000 in
theorem mv_X11_part : MV mX11_part 2 11 := ⟨mo_X11_part, gb_in (by decide +kernel) (by decide +kernel), gb_in (by decide +kernel) (by decide +kernel), _, rfl, rfl⟩
set_option maxRecDepth 100000 in
theorem mo_X11_pen : MO mX11_pen 2 := ⟨gb_in (List.mem_of_getElem? (i := 1892) (by rfl)) (by decide +kernel), gb_in (by decide +kernel) (by decide +kernel), by decide +kernel, by decide +kernel, by decide +kernel⟩
set_option maxRecDepth 100000 in
theorem mv_X11_pen : MV mX11_pen 2 11 := ⟨mo_X11_pen, gb_in (by decide +kernel) (by decide +kernel), gb_in (by decide +kernel) (by decide +kernel), _, rfl, rfl⟩
set_option maxRecDepth 100000 in
theorem mo_X11_planned : MO mX11_planned 1 := ⟨gb_in (List.mem_of_getElem? (i := 1787) (by rfl)) (by decide +kernel), gb_in (by decide +kernel) (by decide +kernel), by decide +kernel, by decide +kernel, by decide +kernel⟩
set_option maxRecDepth 100000 in
theorem mv_X11_planned : MV mX11_planned 1 11 := ⟨mo_X11_planned, gb_in (by decide +kernel) (by decide +kernel), gb_in (by decide +kernel) (by decide +kernel), _, rfl, rfl⟩
set_option maxRecDepth 100000 in
theorem mo_X11_plansAnew : MO mX11_plansAnew 0 := ⟨gb_in (List.mem_of_getElem? (i := 1642) (by rfl)) (by decide +kernel), gb_in (by decide +kernel) (by decide +kernel), by decide +kernel, by decide +kernel, by decide +kernel⟩
set_option maxRecDepth 100000 in
theorem mv_X11_plansAnew : MV mX11_plansAnew 0 11 := ⟨mo_X11_plansAnew, gb_in (by decide +kernel) (by decide +kernel), gb_in (by decide +kernel) (by decide +kernel), _, rfl, rfl⟩
set_option maxRecDepth 100000 in
theorem mo_X11_readAll : MO mX11_readAll 1 := ⟨gb_in (List.mem_of_getElem? (i := 1579) (by rfl)) (by decide +kernel), gb_in (by decide +kernel) (by decide +kernel), by decide +kernel, by decide +kernel, by decide +kernel⟩
set_option maxRecDepth 100000 in
theorem mv_X11_readAll : MV mX11_readAll 1 11 := ⟨mo_X11_readAll, gb_in (by decide +kernel) (by decide +kernel), gb_in (by decide +kernel) (by decide +kernel), _, rfl, rfl⟩
set_option maxRecDepth 100000 in
theorem mo_X11_readHome : MO mX11_readHome 0 := ⟨gb_in (List.mem_of_getElem? (i := 1626) (by rfl)) (by decide +kernel), gb_in (by decide +kernel) (by decide +kernel), by decide +kernel, by decide +kernel, by decide +kernel⟩
set_option maxRecDepth 100000 in
theorem mv_X11_readHome : MV mX11_readHome 0 11 := ⟨mo_X11_readHome, gb_in (by decide +kernel) (by decide +kernel), gb_in (by decide +kernel) (by decide +kernel), _, rfl, rfl⟩
set_option maxRecDepth 100000 in
theorem mo_X11_readLine : MO mX11_readLine 0 := ⟨gb_in (List.mem_of_getElem? (i := 1591) (by rfl)) (by decide +kernel), gb_in (by decide +kernel) (by decide +kernel), by decide +kernel, by decide +kernel, by decide +kernel⟩
set_option maxRecDepth 100000 in
theorem mv_X11_readLine : MV mX11_readLine 0 11 := ⟨mo_X11_readLine, gb_in (by decide +kernel) (by decide +kernel), gb_in (by decide +kernel) (by decide +kernel), _, rfl, rfl⟩
