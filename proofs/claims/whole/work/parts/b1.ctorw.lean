/-! words of the making -/
set_option maxRecDepth 100000 in
theorem mo_X0_init : MO mX0_init 0 := ⟨gb_in (List.mem_of_getElem? (i := 182) (by rfl)) (by decide +kernel), gb_in (by decide +kernel) (by decide +kernel), by decide +kernel, by decide +kernel, by decide +kernel⟩
set_option maxRecDepth 100000 in
theorem wi_X0 : Cond.instanceMethod yX0_init ∈ GB := gb_in (by decide +kernel) (by decide +kernel)
set_option maxRecDepth 100000 in
theorem wn_X0 : Cond.instantiable RX0 9 ∈ GB := gb_in (by decide +kernel) (by decide +kernel)
set_option maxRecDepth 100000 in
theorem wz_X0 : Cond.initialized RX0 ∈ GB := gb_in (by decide +kernel) (by decide +kernel)
set_option maxRecDepth 100000 in
theorem mo_X1_init : MO mX1_init 0 := ⟨gb_in (List.mem_of_getElem? (i := 246) (by rfl)) (by decide +kernel), gb_in (by decide +kernel) (by decide +kernel), by decide +kernel, by decide +kernel, by decide +kernel⟩
set_option maxRecDepth 100000 in
theorem wi_X1 : Cond.instanceMethod yX1_init ∈ GB := gb_in (by decide +kernel) (by decide +kernel)
set_option maxRecDepth 100000 in
theorem wn_X1 : Cond.instantiable RX1 5 ∈ GB := gb_in (by decide +kernel) (by decide +kernel)
set_option maxRecDepth 100000 in
theorem wz_X1 : Cond.initialized RX1 ∈ GB := gb_in (by decide +kernel) (by decide +kernel)
set_option maxRecDepth 100000 in
theorem mo_X2_init : MO mX2_init 3 := ⟨gb_in (List.mem_of_getElem? (i := 488) (by rfl)) (by decide +kernel), gb_in (by decide +kernel) (by decide +kernel), by decide +kernel, by decide +kernel, by decide +kernel⟩
set_option maxRecDepth 100000 in
theorem wi_X2 : Cond.instanceMethod yX2_init ∈ GB := gb_in (by decide +kernel) (by decide +kernel)
set_option maxRecDepth 100000 in
theorem wn_X2 : Cond.instantiable RX2 4 ∈ GB := gb_in (by decide +kernel) (by decide +kernel)
set_option maxRecDepth 100000 in
theorem wz_X2 : Cond.initialized RX2 ∈ GB := gb_in (by decide +kernel) (by decide +kernel)
set_option maxRecDepth 100000 in
theorem mo_X3_init : MO mX3_init 1 := ⟨gb_in (List.mem_of_getElem? (i := 240) (by rfl)) (by decide +kernel), gb_in (by decide +kernel) (by decide +kernel), by decide +kernel, by decide +kernel, by decide +kernel⟩
set_option maxRecDepth 100000 in
theorem wi_X3 : Cond.instanceMethod yX3_init ∈ GB := gb_in (by decide +kernel) (by decide +kernel)
set_option maxRecDepth 100000 in
theorem wn_X3 : Cond.instantiable RX3 7 ∈ GB := gb_in (by decide +kernel) (by decide +kernel)
set_option maxRecDepth 100000 in
theorem wz_X3 : Cond.initialized RX3 ∈ GB := gb_in (by decide +kernel) (by decide +kernel)
set_option maxRecDepth 100000 in
theorem mo_X4_init : MO mX4_init 1 := ⟨gb_in (List.mem_of_getElem? (i := 295) (by rfl)) (by decide +kernel), gb_in (by decide +kernel) (by decide +kernel), by decide +kernel, by decide +kernel, by decide +kernel⟩
set_option maxRecDepth 100000 in
theorem wi_X4 : Cond.instanceMethod yX4_init ∈ GB := gb_in (by decide +kernel) (by decide +kernel)
set_option maxRecDepth 100000 in
theorem wn_X4 : Cond.instantiable RX4 15 ∈ GB := gb_in (by decide +kernel) (by decide +kernel)
set_option maxRecDepth 100000 in
theorem wz_X4 : Cond.initialized RX4 ∈ GB := gb_in (by decide +kernel) (by decide +kernel)
set_option maxRecDepth 100000 in
theorem mo_X5_init : MO mX5_init 3 := ⟨gb_in (List.mem_of_getElem? (i := 465) (by rfl)) (by decide +kernel), gb_in (by decide +kernel) (by decide +kernel), by decide +kernel, by decide +kernel, by decide +kernel⟩
set_option maxRecDepth 100000 in
theorem wi_X5 : Cond.instanceMethod yX5_init ∈ GB := gb_in (by decide +kernel) (by decide +kernel)
set_option maxRecDepth 100000 in
theorem wn_X5 : Cond.instantiable RX5 5 ∈ GB := gb_in (by decide +kernel) (by decide +kernel)
set_option maxRecDepth 100000 in
theorem wz_X5 : Cond.initialized RX5 ∈ GB := gb_in (by decide +kernel) (by decide +kernel)
set_option maxRecDepth 100000 in
theorem mo_X6_init : MO mX6_init 2 := ⟨gb_in (List.mem_of_getElem? (i := 514) (by rfl)) (by decide +kernel), gb_in (by decide +kernel) (by decide +kernel), by decide +kernel, by decide +kernel, by decide +kernel⟩
set_option maxRecDepth 100000 in
theorem wi_X6 : Cond.instanceMethod yX6_init ∈ GB := gb_in (by decide +kernel) (by decide +kernel)
set_option maxRecDepth 100000 in
theorem wn_X6 : Cond.instantiable RX6 7 ∈ GB := gb_in (by decide +kernel) (by decide +kernel)
set_option maxRecDepth 100000 in
theorem wz_X6 : Cond.initialized RX6 ∈ GB := gb_in (by decide +kernel) (by decide +kernel)
set_option maxRecDepth 100000 in
theorem mo_X7_init : MO mX7_init 0 := ⟨gb_in (List.mem_of_getElem? (i := 149) (by rfl)) (by decide +kernel), gb_in (by decide +kernel) (by decide +kernel), by decide +kernel, by decide +kernel, by decide +kernel⟩
set_option maxRecDepth 100000 in
theorem wi_X7 : Cond.instanceMethod yX7_init ∈ GB := gb_in (by decide +kernel) (by decide +kernel)
set_option maxRecDepth 100000 in
theorem wn_X7 : Cond.instantiable RX7 7 ∈ GB := gb_in (by decide +kernel) (by decide +kernel)
set_option maxRecDepth 100000 in
theorem wz_X7 : Cond.initialized RX7 ∈ GB := gb_in (by decide +kernel) (by decide +kernel)
set_option maxRecDepth 100000 in
theorem mo_X8_init : MO mX8_init 3 := ⟨gb_in (List.mem_of_getElem? (i := 403) (by rfl)) (by decide +kernel), gb_in (by decide +kernel) (by decide +kernel), by decide +kernel, by decide +kernel, by decide +kernel⟩
set_option maxRecDepth 100000 in
theorem wi_X8 : Cond.instanceMethod yX8_init ∈ GB := gb_in (by decide +kernel) (by decide +kernel)
set_option maxRecDepth 100000 in
theorem wn_X8 : Cond.instantiable RX8 15 ∈ GB := gb_in (by decide +kernel) (by decide +kernel)
set_option maxRecDepth 100000 in
theorem wz_X8 : Cond.initialized RX8 ∈ GB := gb_in (by decide +kernel) (by decide +kernel)
set_option maxRecDepth 100000 in
theorem mo_X9_init : MO mX9_init 3 := ⟨gb_in (List.mem_of_getElem? (i := 357) (by rfl)) (by decide +kernel), gb_in (by decide +kernel) (by decide +kernel), by decide +kernel, by decide +kernel, by decide +kernel⟩
set_option maxRecDepth 100000 in
theorem wi_X9 : Cond.instanceMethod yX9_init ∈ GB := gb_in (by decide +kernel) (by decide +kernel)
set_option maxRecDepth 100000 in
theorem wn_X9 : Cond.instantiable RX9 13 ∈ GB := gb_in (by decide +kernel) (by decide +kernel)
set_option maxRecDepth 100000 in
theorem wz_X9 : Cond.initialized RX9 ∈ GB := gb_in (by decide +kernel) (by decide +kernel)
set_option maxRecDepth 100000 in
theorem mo_X10_init : MO mX10_init 0 := ⟨gb_in (List.mem_of_getElem? (i := 141) (by rfl)) (by decide +kernel), gb_in (by decide +kernel) (by decide +kernel), by decide +kernel, by decide +kernel, by decide +kernel⟩
set_option maxRecDepth 100000 in
theorem wi_X10 : Cond.instanceMethod yX10_init ∈ GB := gb_in (by decide +kernel) (by decide +kernel)
set_option maxRecDepth 100000 in
theorem wn_X10 : Cond.instantiable RX10 14 ∈ GB := gb_in (by decide +kernel) (by decide +kernel)
set_option maxRecDepth 100000 in
theorem wz_X10 : Cond.initialized RX10 ∈ GB := gb_in (by decide +kernel) (by decide +kernel)
set_option maxRecDepth 100000 in
theorem mo_X11_init : MO mX11_init 0 := ⟨gb_in (List.mem_of_getElem? (i := 1388) (by rfl)) (by decide +kernel), gb_in (by decide +kernel) (by decide +kernel), by decide +kernel, by decide +kernel, by decide +kernel⟩
set_option maxRecDepth 100000 in
theorem wi_X11 : Cond.instanceMethod yX11_init ∈ GB := gb_in (by decide +kernel) (by decide +kernel)
set_option maxRecDepth 100000 in
theorem wn_X11 : Cond.instantiable RX11 54 ∈ GB := gb_in (by decide +kernel) (by decide +kernel)
set_option maxRecDepth 100000 in
theorem wz_X11 : Cond.initialized RX11 ∈ GB := gb_in (by decide +kernel) (by decide +kernel)
set_option maxRecDepth 100000 in
theorem wo_X0 : Cond.methodLink RX0 3 Lib.objectInit ∈ GB := gb_in (by decide +kernel) (by decide +kernel)
set_option maxRecDepth 100000 in
theorem wo_X1 : Cond.methodLink RX1 3 Lib.objectInit ∈ GB := gb_in (by decide +kernel) (by decide +kernel)
set_option maxRecDepth 100000 in
theorem wo_X2 : Cond.methodLink RX2 1 Lib.objectInit ∈ GB := gb_in (by decide +kernel) (by decide +kernel)
set_option maxRecDepth 100000 in
theorem wc_X2_9 : Cond.classLink RX2 9 RX0 ∈ GB := gb_in (by decide +kernel) (by decide +kernel)
set_option maxRecDepth 100000 in
theorem wc_X2_15 : Cond.classLink RX2 15 RX5 ∈ GB := gb_in (by decide +kernel) (by decide +kernel)
set_option maxRecDepth 100000 in
theorem ws_X2_29 : Cond.methodLink RX2 29 yX5_init ∈ GB := gb_in (by decide +kernel) (by decide +kernel)
set_option maxRecDepth 100000 in
theorem wo_X3 : Cond.methodLink RX3 3 Lib.objectInit ∈ GB := gb_in (by decide +kernel) (by decide +kernel)
set_option maxRecDepth 100000 in
theorem wc_X3_9 : Cond.classLink RX3 9 RX1 ∈ GB := gb_in (by decide +kernel) (by decide +kernel)
set_option maxRecDepth 100000 in
theorem wo_X4 : Cond.methodLink RX4 5 Lib.objectInit ∈ GB := gb_in (by decide +kernel) (by decide +kernel)
set_option maxRecDepth 100000 in
theorem wo_X5 : Cond.methodLink RX5 3 Lib.objectInit ∈ GB := gb_in (by decide +kernel) (by decide +kernel)
set_option maxRecDepth 100000 in
theorem wo_X6 : Cond.methodLink RX6 3 Lib.objectInit ∈ GB := gb_in (by decide +kernel) (by decide +kernel)
set_option maxRecDepth 100000 in
theorem wo_X7 : Cond.methodLink RX7 1 Lib.objectInit ∈ GB := gb_in (by decide +kernel) (by decide +kernel)
set_option maxRecDepth 100000 in
theorem wo_X8 : Cond.methodLink RX8 3 Lib.objectInit ∈ GB := gb_in (by decide +kernel) (by decide +kernel)
set_option maxRecDepth 100000 in
theorem wo_X9 : Cond.methodLink RX9 3 Lib.objectInit ∈ GB := gb_in (by decide +kernel) (by decide +kernel)
set_option maxRecDepth 100000 in
theorem wo_X10 : Cond.methodLink RX10 3 Lib.objectInit ∈ GB := gb_in (by decide +kernel) (by decide +kernel)
set_option maxRecDepth 100000 in
theorem wc_X10_9 : Cond.classLink RX10 9 RX7 ∈ GB := gb_in (by decide +kernel) (by decide +kernel)
set_option maxRecDepth 100000 in
theorem wc_X10_16 : Cond.classLink RX10 16 RX0 ∈ GB := gb_in (by decide +kernel) (by decide +kernel)
set_option maxRecDepth 100000 in
theorem wc_X10_23 : Cond.classLink RX10 23 RX3 ∈ GB := gb_in (by decide +kernel) (by decide +kernel)
set_option maxRecDepth 100000 in
theorem ws_X10_25 : Cond.methodLink RX10 25 yX3_init ∈ GB := gb_in (by decide +kernel) (by decide +kernel)
set_option maxRecDepth 100000 in
theorem wc_X10_32 : Cond.classLink RX10 32 RX4 ∈ GB := gb_in (by decide +kernel) (by decide +kernel)
set_option maxRecDepth 100000 in
theorem ws_X10_34 : Cond.methodLink RX10 34 yX4_init ∈ GB := gb_in (by decide +kernel) (by decide +kernel)
set_option maxRecDepth 100000 in
theorem wc_X10_41 : Cond.classLink RX10 41 RX9 ∈ GB := gb_in (by decide +kernel) (by decide +kernel)
set_option maxRecDepth 100000 in
theorem ws_X10_43 : Cond.methodLink RX10 43 yX9_init ∈ GB := gb_in (by decide +kernel) (by decide +kernel)
set_option maxRecDepth 100000 in
theorem wc_X10_50 : Cond.classLink RX10 50 RX8 ∈ GB := gb_in (by decide +kernel) (by decide +kernel)
set_option maxRecDepth 100000 in
theorem ws_X10_52 : Cond.methodLink RX10 52 yX8_init ∈ GB := gb_in (by decide +kernel) (by decide +kernel)
set_option maxRecDepth 100000 in
theorem wc_X10_59 : Cond.classLink RX10 59 RX5 ∈ GB := gb_in (by decide +kernel) (by decide +kernel)
set_option maxRecDepth 100000 in
theorem ws_X10_61 : Cond.methodLink RX10 61 yX5_init ∈ GB := gb_in (by decide +kernel) (by decide +kernel)
set_option maxRecDepth 100000 in
theorem wc_X10_68 : Cond.classLink RX10 68 RX2 ∈ GB := gb_in (by decide +kernel) (by decide +kernel)
set_option maxRecDepth 100000 in
theorem ws_X10_70 : Cond.methodLink RX10 70 yX2_init ∈ GB := gb_in (by decide +kernel) (by decide +kernel)
set_option maxRecDepth 100000 in
theorem wc_X10_84 : Cond.classLink RX10 84 RX6 ∈ GB := gb_in (by decide +kernel) (by decide +kernel)
set_option maxRecDepth 100000 in
theorem ws_X10_86 : Cond.methodLink RX10 86 yX6_init ∈ GB := gb_in (by decide +kernel) (by decide +kernel)
set_option maxRecDepth 100000 in
theorem wo_X11 : Cond.methodLink RX11 3 Lib.objectInit ∈ GB := gb_in (by decide +kernel) (by decide +kernel)
set_option maxRecDepth 100000 in
theorem wc_L_8 : Cond.classLink RL 8 RX10 ∈ GB := gb_in (by decide +kernel) (by decide +kernel)
set_option maxRecDepth 100000 in
theorem ws_L_15 : Cond.methodLink RL 15 yX10_init ∈ GB := gb_in (by decide +kernel) (by decide +kernel)
set_option maxRecDepth 100000 in
theorem wc_L_16 : Cond.classLink RL 16 RX11 ∈ GB := gb_in (by decide +kernel) (by decide +kernel)
set_option maxRecDepth 100000 in
theorem ws_L_18 : Cond.methodLink RL 18 yX11_init ∈ GB := gb_in (by decide +kernel) (by decide +kernel)
set_option maxRecDepth 100000 in
theorem w_newJ : Cond.arrayClass (newarray.typeOf .long) ∈ GB := gb_in (by decide +kernel) (by decide +kernel)
