set_option maxRecDepth 100000 in
theorem fl_X10_12 : FL RX10 12 10 0 := ⟨_, rfl, by decide, gb_in (by decide +kernel) (by decide +kernel)⟩
set_option maxRecDepth 100000 in
theorem fl_X10_19 : FL RX10 19 10 1 := ⟨_, rfl, by decide, gb_in (by decide +kernel) (by decide +kernel)⟩
set_option maxRecDepth 100000 in
theorem fl_X10_28 : FL RX10 28 10 2 := ⟨_, rfl, by decide, gb_in (by decide +kernel) (by decide +kernel)⟩
set_option maxRecDepth 100000 in
theorem fl_X10_37 : FL RX10 37 10 3 := ⟨_, rfl, by decide, gb_in (by decide +kernel) (by decide +kernel)⟩
set_option maxRecDepth 100000 in
theorem fl_X10_46 : FL RX10 46 10 4 := ⟨_, rfl, by decide, gb_in (by decide +kernel) (by decide +kernel)⟩
set_option maxRecDepth 100000 in
theorem fl_X10_55 : FL RX10 55 10 5 := ⟨_, rfl, by decide, gb_in (by decide +kernel) (by decide +kernel)⟩
set_option maxRecDepth 100000 in
theorem fl_X10_64 : FL RX10 64 10 6 := ⟨_, rfl, by decide, gb_in (by decide +kernel) (by decide +kernel)⟩
set_option maxRecDepth 100000 in
theorem fl_X10_71 : FL RX10 71 10 7 := ⟨_, rfl, by decide, gb_in (by decide +kernel) (by decide +kernel)⟩
set_option maxRecDepth 100000 in
theorem fl_X10_75 : FL RX10 75 10 8 := ⟨_, rfl, by decide, gb_in (by decide +kernel) (by decide +kernel)⟩
set_option maxRecDepth 100000 in
theorem fl_X10_78 : FL RX10 78 10 9 := ⟨_, rfl, by decide, gb_in (by decide +kernel) (by decide +kernel)⟩
set_option maxRecDepth 100000 in
theorem fl_X10_81 : FL RX10 81 10 10 := ⟨_, rfl, by decide, gb_in (by decide +kernel) (by decide +kernel)⟩
set_option maxRecDepth 100000 in
theorem fl_X10_89 : FL RX10 89 10 11 := ⟨_, rfl, by decide, gb_in (by decide +kernel) (by decide +kernel)⟩
set_option maxRecDepth 100000 in
theorem fl_X10_93 : FL RX10 93 10 12 := ⟨_, rfl, by decide, gb_in (by decide +kernel) (by decide +kernel)⟩
set_option maxRecDepth 100000 in
theorem fl_X10_97 : FL RX10 97 10 13 := ⟨_, rfl, by decide, gb_in (by decide +kernel) (by decide +kernel)⟩
set_option maxRecDepth 100000 in
theorem fl_X10_109 : FL RX10 109 7 1 := ⟨_, rfl, by decide, gb_in (by decide +kernel) (by decide +kernel)⟩
set_option maxRecDepth 100000 in
theorem fl_X10_129 : FL RX10 129 0 2 := ⟨_, rfl, by decide, gb_in (by decide +kernel) (by decide +kernel)⟩
set_option maxRecDepth 100000 in
theorem fl_X10_135 : FL RX10 135 6 5 := ⟨_, rfl, by decide, gb_in (by decide +kernel) (by decide +kernel)⟩
set_option maxRecDepth 100000 in
theorem fl_X10_138 : FL RX10 138 6 6 := ⟨_, rfl, by decide, gb_in (by decide +kernel) (by decide +kernel)⟩
set_option maxRecDepth 100000 in
theorem fl_X10_141 : FL RX10 141 0 3 := ⟨_, rfl, by decide, gb_in (by decide +kernel) (by decide +kernel)⟩
set_option maxRecDepth 100000 in
theorem fl_X10_144 : FL RX10 144 0 4 := ⟨_, rfl, by decide, gb_in (by decide +kernel) (by decide +kernel)⟩
set_option maxRecDepth 100000 in
theorem fl_X10_147 : FL RX10 147 0 5 := ⟨_, rfl, by decide, gb_in (by decide +kernel) (by decide +kernel)⟩
set_option maxRecDepth 100000 in
theorem fl_X10_150 : FL RX10 150 0 6 := ⟨_, rfl, by decide, gb_in (by decide +kernel) (by decide +kernel)⟩
set_option maxRecDepth 100000 in
theorem fl_X10_153 : FL RX10 153 0 7 := ⟨_, rfl, by decide, gb_in (by decide +kernel) (by decide +kernel)⟩
set_option maxRecDepth 100000 in
theorem fl_X10_156 : FL RX10 156 0 8 := ⟨_, rfl, by decide, gb_in (by decide +kernel) (by decide +kernel)⟩
set_option maxRecDepth 100000 in
theorem fl_X10_169 : FL RX10 169 8 9 := ⟨_, rfl, by decide, gb_in (by decide +kernel) (by decide +kernel)⟩
set_option maxRecDepth 100000 in
theorem fl_X10_174 : FL RX10 174 0 0 := ⟨_, rfl, by decide, gb_in (by decide +kernel) (by decide +kernel)⟩
set_option maxRecDepth 100000 in
theorem fl_X10_178 : FL RX10 178 0 1 := ⟨_, rfl, by decide, gb_in (by decide +kernel) (by decide +kernel)⟩
set_option maxRecDepth 100000 in
theorem fl_X10_193 : FL RX10 193 3 5 := ⟨_, rfl, by decide, gb_in (by decide +kernel) (by decide +kernel)⟩
set_option maxRecDepth 100000 in
theorem fl_X10_211 : FL RX10 211 3 6 := ⟨_, rfl, by decide, gb_in (by decide +kernel) (by decide +kernel)⟩
set_option maxRecDepth 100000 in
theorem fl_X10_223 : FL RX10 223 4 6 := ⟨_, rfl, by decide, gb_in (by decide +kernel) (by decide +kernel)⟩
set_option maxRecDepth 100000 in
theorem fl_X10_224 : FL RX10 224 4 1 := ⟨_, rfl, by decide, gb_in (by decide +kernel) (by decide +kernel)⟩
set_option maxRecDepth 100000 in
theorem fl_X10_227 : FL RX10 227 4 2 := ⟨_, rfl, by decide, gb_in (by decide +kernel) (by decide +kernel)⟩
set_option maxRecDepth 100000 in
theorem fl_X10_230 : FL RX10 230 4 3 := ⟨_, rfl, by decide, gb_in (by decide +kernel) (by decide +kernel)⟩
set_option maxRecDepth 100000 in
theorem fl_X10_233 : FL RX10 233 4 4 := ⟨_, rfl, by decide, gb_in (by decide +kernel) (by decide +kernel)⟩
set_option maxRecDepth 100000 in
theorem fl_X10_250 : FL RX10 250 8 3 := ⟨_, rfl, by decide, gb_in (by decide +kernel) (by decide +kernel)⟩
set_option maxRecDepth 100000 in
theorem fl_X10_253 : FL RX10 253 8 4 := ⟨_, rfl, by decide, gb_in (by decide +kernel) (by decide +kernel)⟩
set_option maxRecDepth 100000 in
theorem fl_X10_261 : FL RX10 261 8 7 := ⟨_, rfl, by decide, gb_in (by decide +kernel) (by decide +kernel)⟩
set_option maxRecDepth 100000 in
theorem fl_X10_306 : FL RX10 306 8 8 := ⟨_, rfl, by decide, gb_in (by decide +kernel) (by decide +kernel)⟩
set_option maxRecDepth 100000 in
theorem fl_X10_344 : FL RX10 344 2 3 := ⟨_, rfl, by decide, gb_in (by decide +kernel) (by decide +kernel)⟩
set_option maxRecDepth 100000 in
theorem fl_X10_360 : FL RX10 360 5 4 := ⟨_, rfl, by decide, gb_in (by decide +kernel) (by decide +kernel)⟩
set_option maxRecDepth 100000 in
theorem fl_X11_9 : FL RX11 9 11 3 := ⟨_, rfl, by decide, gb_in (by decide +kernel) (by decide +kernel)⟩
set_option maxRecDepth 100000 in
theorem fl_X11_13 : FL RX11 13 11 4 := ⟨_, rfl, by decide, gb_in (by decide +kernel) (by decide +kernel)⟩
set_option maxRecDepth 100000 in
theorem fl_X11_17 : FL RX11 17 11 6 := ⟨_, rfl, by decide, gb_in (by decide +kernel) (by decide +kernel)⟩
set_option maxRecDepth 100000 in
theorem fl_X11_20 : FL RX11 20 11 7 := ⟨_, rfl, by decide, gb_in (by decide +kernel) (by decide +kernel)⟩
set_option maxRecDepth 100000 in
theorem fl_X11_23 : FL RX11 23 11 8 := ⟨_, rfl, by decide, gb_in (by decide +kernel) (by decide +kernel)⟩
set_option maxRecDepth 100000 in
theorem fl_X11_26 : FL RX11 26 11 9 := ⟨_, rfl, by decide, gb_in (by decide +kernel) (by decide +kernel)⟩
set_option maxRecDepth 100000 in
theorem fl_X11_29 : FL RX11 29 11 22 := ⟨_, rfl, by decide, gb_in (by decide +kernel) (by decide +kernel)⟩
set_option maxRecDepth 100000 in
theorem fl_X11_32 : FL RX11 32 11 23 := ⟨_, rfl, by decide, gb_in (by decide +kernel) (by decide +kernel)⟩
set_option maxRecDepth 100000 in
theorem fl_X11_35 : FL RX11 35 11 24 := ⟨_, rfl, by decide, gb_in (by decide +kernel) (by decide +kernel)⟩
set_option maxRecDepth 100000 in
theorem fl_X11_38 : FL RX11 38 11 25 := ⟨_, rfl, by decide, gb_in (by decide +kernel) (by decide +kernel)⟩
set_option maxRecDepth 100000 in
theorem fl_X11_41 : FL RX11 41 11 28 := ⟨_, rfl, by decide, gb_in (by decide +kernel) (by decide +kernel)⟩
set_option maxRecDepth 100000 in
theorem fl_X11_44 : FL RX11 44 11 29 := ⟨_, rfl, by decide, gb_in (by decide +kernel) (by decide +kernel)⟩
set_option maxRecDepth 100000 in
theorem fl_X11_47 : FL RX11 47 11 30 := ⟨_, rfl, by decide, gb_in (by decide +kernel) (by decide +kernel)⟩
set_option maxRecDepth 100000 in
theorem fl_X11_50 : FL RX11 50 11 32 := ⟨_, rfl, by decide, gb_in (by decide +kernel) (by decide +kernel)⟩
set_option maxRecDepth 100000 in
theorem fl_X11_53 : FL RX11 53 11 33 := ⟨_, rfl, by decide, gb_in (by decide +kernel) (by decide +kernel)⟩
set_option maxRecDepth 100000 in
theorem fl_X11_56 : FL RX11 56 11 35 := ⟨_, rfl, by decide, gb_in (by decide +kernel) (by decide +kernel)⟩
set_option maxRecDepth 100000 in
theorem fl_X11_59 : FL RX11 59 11 36 := ⟨_, rfl, by decide, gb_in (by decide +kernel) (by decide +kernel)⟩
set_option maxRecDepth 100000 in
theorem fl_X11_63 : FL RX11 63 11 37 := ⟨_, rfl, by decide, gb_in (by decide +kernel) (by decide +kernel)⟩
set_option maxRecDepth 100000 in
theorem fl_X11_66 : FL RX11 66 11 38 := ⟨_, rfl, by decide, gb_in (by decide +kernel) (by decide +kernel)⟩
set_option maxRecDepth 100000 in
theorem fl_X11_69 : FL RX11 69 11 39 := ⟨_, rfl, by decide, gb_in (by decide +kernel) (by decide +kernel)⟩
set_option maxRecDepth 100000 in
theorem fl_X11_72 : FL RX11 72 11 41 := ⟨_, rfl, by decide, gb_in (by decide +kernel) (by decide +kernel)⟩
set_option maxRecDepth 100000 in
theorem fl_X11_75 : FL RX11 75 11 42 := ⟨_, rfl, by decide, gb_in (by decide +kernel) (by decide +kernel)⟩
set_option maxRecDepth 100000 in
theorem fl_X11_78 : FL RX11 78 11 43 := ⟨_, rfl, by decide, gb_in (by decide +kernel) (by decide +kernel)⟩
set_option maxRecDepth 100000 in
theorem fl_X11_81 : FL RX11 81 11 44 := ⟨_, rfl, by decide, gb_in (by decide +kernel) (by decide +kernel)⟩
set_option maxRecDepth 100000 in
theorem fl_X11_84 : FL RX11 84 11 45 := ⟨_, rfl, by decide, gb_in (by decide +kernel) (by decide +kernel)⟩
set_option maxRecDepth 100000 in
theorem fl_X11_87 : FL RX11 87 11 46 := ⟨_, rfl, by decide, gb_in (by decide +kernel) (by decide +kernel)⟩
set_option maxRecDepth 100000 in
theorem fl_X11_90 : FL RX11 90 11 47 := ⟨_, rfl, by decide, gb_in (by decide +kernel) (by decide +kernel)⟩
set_option maxRecDepth 100000 in
theorem fl_X11_93 : FL RX11 93 11 48 := ⟨_, rfl, by decide, gb_in (by decide +kernel) (by decide +kernel)⟩
set_option maxRecDepth 100000 in
theorem fl_X11_96 : FL RX11 96 11 49 := ⟨_, rfl, by decide, gb_in (by decide +kernel) (by decide +kernel)⟩
set_option maxRecDepth 100000 in
theorem fl_X11_99 : FL RX11 99 11 0 := ⟨_, rfl, by decide, gb_in (by decide +kernel) (by decide +kernel)⟩
set_option maxRecDepth 100000 in
theorem fl_X11_102 : FL RX11 102 11 1 := ⟨_, rfl, by decide, gb_in (by decide +kernel) (by decide +kernel)⟩
set_option maxRecDepth 100000 in
theorem fl_X11_105 : FL RX11 105 11 5 := ⟨_, rfl, by decide, gb_in (by decide +kernel) (by decide +kernel)⟩
set_option maxRecDepth 100000 in
theorem fl_X11_112 : FL RX11 112 11 12 := ⟨_, rfl, by decide, gb_in (by decide +kernel) (by decide +kernel)⟩
set_option maxRecDepth 100000 in
theorem fl_X11_115 : FL RX11 115 11 14 := ⟨_, rfl, by decide, gb_in (by decide +kernel) (by decide +kernel)⟩
set_option maxRecDepth 100000 in
theorem fl_X11_122 : FL RX11 122 11 13 := ⟨_, rfl, by decide, gb_in (by decide +kernel) (by decide +kernel)⟩
set_option maxRecDepth 100000 in
theorem fl_X11_125 : FL RX11 125 11 15 := ⟨_, rfl, by decide, gb_in (by decide +kernel) (by decide +kernel)⟩
set_option maxRecDepth 100000 in
theorem fl_X11_132 : FL RX11 132 11 16 := ⟨_, rfl, by decide, gb_in (by decide +kernel) (by decide +kernel)⟩
set_option maxRecDepth 100000 in
theorem fl_X11_145 : FL RX11 145 11 17 := ⟨_, rfl, by decide, gb_in (by decide +kernel) (by decide +kernel)⟩
set_option maxRecDepth 100000 in
theorem fl_X11_148 : FL RX11 148 11 18 := ⟨_, rfl, by decide, gb_in (by decide +kernel) (by decide +kernel)⟩
set_option maxRecDepth 100000 in
theorem fl_X11_165 : FL RX11 165 11 19 := ⟨_, rfl, by decide, gb_in (by decide +kernel) (by decide +kernel)⟩
set_option maxRecDepth 100000 in
theorem fl_X11_177 : FL RX11 177 11 20 := ⟨_, rfl, by decide, gb_in (by decide +kernel) (by decide +kernel)⟩
set_option maxRecDepth 100000 in
theorem fl_X11_180 : FL RX11 180 11 21 := ⟨_, rfl, by decide, gb_in (by decide +kernel) (by decide +kernel)⟩
set_option maxRecDepth 100000 in
theorem fl_X11_210 : FL RX11 210 11 2 := ⟨_, rfl, by decide, gb_in (by decide +kernel) (by decide +kernel)⟩
set_option maxRecDepth 100000 in
theorem fl_X11_223 : FL RX11 223 11 11 := ⟨_, rfl, by decide, gb_in (by decide +kernel) (by decide +kernel)⟩
set_option maxRecDepth 100000 in
theorem fl_X11_226 : FL RX11 226 11 10 := ⟨_, rfl, by decide, gb_in (by decide +kernel) (by decide +kernel)⟩
set_option maxRecDepth 100000 in
theorem fl_X11_249 : FL RX11 249 11 26 := ⟨_, rfl, by decide, gb_in (by decide +kernel) (by decide +kernel)⟩
set_option maxRecDepth 100000 in
theorem fl_X11_255 : FL RX11 255 11 27 := ⟨_, rfl, by decide, gb_in (by decide +kernel) (by decide +kernel)⟩
set_option maxRecDepth 100000 in
theorem fl_X11_258 : FL RX11 258 11 31 := ⟨_, rfl, by decide, gb_in (by decide +kernel) (by decide +kernel)⟩
set_option maxRecDepth 100000 in
theorem fl_X11_261 : FL RX11 261 11 34 := ⟨_, rfl, by decide, gb_in (by decide +kernel) (by decide +kernel)⟩
set_option maxRecDepth 100000 in
theorem fl_X11_290 : FL RX11 290 11 40 := ⟨_, rfl, by decide, gb_in (by decide +kernel) (by decide +kernel)⟩
set_option maxRecDepth 100000 in
theorem fl_X11_296 : FL RX11 296 11 50 := ⟨_, rfl, by decide, gb_in (by decide +kernel) (by decide +kernel)⟩
set_option maxRecDepth 100000 in
theorem fl_X11_393 : FL RX11 393 11 51 := ⟨_, rfl, by decide, gb_in (by decide +kernel) (by decide +kernel)⟩
set_option maxRecDepth 100000 in
theorem fl_X11_396 : FL RX11 396 11 52 := ⟨_, rfl, by decide, gb_in (by decide +kernel) (by decide +kernel)⟩
set_option maxRecDepth 100000 in
theorem fl_X11_399 : FL RX11 399 11 53 := ⟨_, rfl, by decide, gb_in (by decide +kernel) (by decide +kernel)⟩
set_option maxRecDepth 100000 in
theorem fl_X0_9 : FL RX0 9 0 0 := ⟨_, rfl, by decide, gb_in (by decide +kernel) (by decide +kernel)⟩
set_option maxRecDepth 100000 in
theorem fl_X0_15 : FL RX0 15 0 1 := ⟨_, rfl, by decide, gb_in (by decide +kernel) (by decide +kernel)⟩
set_option maxRecDepth 100000 in
theorem fl_X0_18 : FL RX0 18 0 2 := ⟨_, rfl, by decide, gb_in (by decide +kernel) (by decide +kernel)⟩
set_option maxRecDepth 100000 in
theorem fl_X0_22 : FL RX0 22 0 3 := ⟨_, rfl, by decide, gb_in (by decide +kernel) (by decide +kernel)⟩
set_option maxRecDepth 100000 in
theorem fl_X0_25 : FL RX0 25 0 4 := ⟨_, rfl, by decide, gb_in (by decide +kernel) (by decide +kernel)⟩
set_option maxRecDepth 100000 in
theorem fl_X0_28 : FL RX0 28 0 5 := ⟨_, rfl, by decide, gb_in (by decide +kernel) (by decide +kernel)⟩
set_option maxRecDepth 100000 in
theorem fl_X0_31 : FL RX0 31 0 6 := ⟨_, rfl, by decide, gb_in (by decide +kernel) (by decide +kernel)⟩
set_option maxRecDepth 100000 in
theorem fl_X0_34 : FL RX0 34 0 7 := ⟨_, rfl, by decide, gb_in (by decide +kernel) (by decide +kernel)⟩
set_option maxRecDepth 100000 in
theorem fl_X0_37 : FL RX0 37 0 8 := ⟨_, rfl, by decide, gb_in (by decide +kernel) (by decide +kernel)⟩
set_option maxRecDepth 100000 in
theorem fl_X1_9 : FL RX1 9 1 0 := ⟨_, rfl, by decide, gb_in (by decide +kernel) (by decide +kernel)⟩
set_option maxRecDepth 100000 in
theorem fl_X1_15 : FL RX1 15 1 1 := ⟨_, rfl, by decide, gb_in (by decide +kernel) (by decide +kernel)⟩
set_option maxRecDepth 100000 in
theorem fl_X1_18 : FL RX1 18 1 2 := ⟨_, rfl, by decide, gb_in (by decide +kernel) (by decide +kernel)⟩
set_option maxRecDepth 100000 in
theorem fl_X1_22 : FL RX1 22 1 3 := ⟨_, rfl, by decide, gb_in (by decide +kernel) (by decide +kernel)⟩
set_option maxRecDepth 100000 in
theorem fl_X1_25 : FL RX1 25 1 4 := ⟨_, rfl, by decide, gb_in (by decide +kernel) (by decide +kernel)⟩
set_option maxRecDepth 100000 in
theorem fl_X2_11 : FL RX2 11 2 0 := ⟨_, rfl, by decide, gb_in (by decide +kernel) (by decide +kernel)⟩
set_option maxRecDepth 100000 in
theorem fl_X2_17 : FL RX2 17 2 1 := ⟨_, rfl, by decide, gb_in (by decide +kernel) (by decide +kernel)⟩
set_option maxRecDepth 100000 in
theorem fl_X2_21 : FL RX2 21 2 2 := ⟨_, rfl, by decide, gb_in (by decide +kernel) (by decide +kernel)⟩
set_option maxRecDepth 100000 in
theorem fl_X2_25 : FL RX2 25 2 3 := ⟨_, rfl, by decide, gb_in (by decide +kernel) (by decide +kernel)⟩
set_option maxRecDepth 100000 in
theorem fl_X3_12 : FL RX3 12 3 1 := ⟨_, rfl, by decide, gb_in (by decide +kernel) (by decide +kernel)⟩
set_option maxRecDepth 100000 in
theorem fl_X3_18 : FL RX3 18 3 2 := ⟨_, rfl, by decide, gb_in (by decide +kernel) (by decide +kernel)⟩
set_option maxRecDepth 100000 in
theorem fl_X3_21 : FL RX3 21 3 3 := ⟨_, rfl, by decide, gb_in (by decide +kernel) (by decide +kernel)⟩
set_option maxRecDepth 100000 in
theorem fl_X3_25 : FL RX3 25 3 4 := ⟨_, rfl, by decide, gb_in (by decide +kernel) (by decide +kernel)⟩
set_option maxRecDepth 100000 in
theorem fl_X3_28 : FL RX3 28 3 5 := ⟨_, rfl, by decide, gb_in (by decide +kernel) (by decide +kernel)⟩
set_option maxRecDepth 100000 in
theorem fl_X3_31 : FL RX3 31 3 6 := ⟨_, rfl, by decide, gb_in (by decide +kernel) (by decide +kernel)⟩
set_option maxRecDepth 100000 in
theorem fl_X3_34 : FL RX3 34 3 0 := ⟨_, rfl, by decide, gb_in (by decide +kernel) (by decide +kernel)⟩
set_option maxRecDepth 100000 in
theorem fl_X3_51 : FL RX3 51 0 2 := ⟨_, rfl, by decide, gb_in (by decide +kernel) (by decide +kernel)⟩
set_option maxRecDepth 100000 in
theorem fl_X3_67 : FL RX3 67 1 2 := ⟨_, rfl, by decide, gb_in (by decide +kernel) (by decide +kernel)⟩
set_option maxRecDepth 100000 in
theorem fl_X3_70 : FL RX3 70 0 0 := ⟨_, rfl, by decide, gb_in (by decide +kernel) (by decide +kernel)⟩
set_option maxRecDepth 100000 in
theorem fl_X3_73 : FL RX3 73 1 1 := ⟨_, rfl, by decide, gb_in (by decide +kernel) (by decide +kernel)⟩
set_option maxRecDepth 100000 in
theorem fl_X3_76 : FL RX3 76 0 1 := ⟨_, rfl, by decide, gb_in (by decide +kernel) (by decide +kernel)⟩
set_option maxRecDepth 100000 in
theorem fl_X3_99 : FL RX3 99 1 0 := ⟨_, rfl, by decide, gb_in (by decide +kernel) (by decide +kernel)⟩
set_option maxRecDepth 100000 in
theorem fl_X3_102 : FL RX3 102 0 5 := ⟨_, rfl, by decide, gb_in (by decide +kernel) (by decide +kernel)⟩
set_option maxRecDepth 100000 in
theorem fl_X3_105 : FL RX3 105 0 6 := ⟨_, rfl, by decide, gb_in (by decide +kernel) (by decide +kernel)⟩
set_option maxRecDepth 100000 in
theorem fl_X4_11 : FL RX4 11 4 1 := ⟨_, rfl, by decide, gb_in (by decide +kernel) (by decide +kernel)⟩
set_option maxRecDepth 100000 in
theorem fl_X4_15 : FL RX4 15 4 2 := ⟨_, rfl, by decide, gb_in (by decide +kernel) (by decide +kernel)⟩
set_option maxRecDepth 100000 in
theorem fl_X4_18 : FL RX4 18 4 3 := ⟨_, rfl, by decide, gb_in (by decide +kernel) (by decide +kernel)⟩
set_option maxRecDepth 100000 in
theorem fl_X4_21 : FL RX4 21 4 4 := ⟨_, rfl, by decide, gb_in (by decide +kernel) (by decide +kernel)⟩
set_option maxRecDepth 100000 in
theorem fl_X4_25 : FL RX4 25 4 5 := ⟨_, rfl, by decide, gb_in (by decide +kernel) (by decide +kernel)⟩
set_option maxRecDepth 100000 in
theorem fl_X4_28 : FL RX4 28 4 6 := ⟨_, rfl, by decide, gb_in (by decide +kernel) (by decide +kernel)⟩
set_option maxRecDepth 100000 in
theorem fl_X4_32 : FL RX4 32 4 7 := ⟨_, rfl, by decide, gb_in (by decide +kernel) (by decide +kernel)⟩
set_option maxRecDepth 100000 in
theorem fl_X4_35 : FL RX4 35 4 8 := ⟨_, rfl, by decide, gb_in (by decide +kernel) (by decide +kernel)⟩
set_option maxRecDepth 100000 in
theorem fl_X4_38 : FL RX4 38 4 9 := ⟨_, rfl, by decide, gb_in (by decide +kernel) (by decide +kernel)⟩
set_option maxRecDepth 100000 in
theorem fl_X4_41 : FL RX4 41 4 10 := ⟨_, rfl, by decide, gb_in (by decide +kernel) (by decide +kernel)⟩
set_option maxRecDepth 100000 in
theorem fl_X4_44 : FL RX4 44 4 11 := ⟨_, rfl, by decide, gb_in (by decide +kernel) (by decide +kernel)⟩
set_option maxRecDepth 100000 in
theorem fl_X4_47 : FL RX4 47 4 12 := ⟨_, rfl, by decide, gb_in (by decide +kernel) (by decide +kernel)⟩
set_option maxRecDepth 100000 in
theorem fl_X4_50 : FL RX4 50 4 13 := ⟨_, rfl, by decide, gb_in (by decide +kernel) (by decide +kernel)⟩
set_option maxRecDepth 100000 in
theorem fl_X4_53 : FL RX4 53 4 14 := ⟨_, rfl, by decide, gb_in (by decide +kernel) (by decide +kernel)⟩
set_option maxRecDepth 100000 in
theorem fl_X4_56 : FL RX4 56 4 0 := ⟨_, rfl, by decide, gb_in (by decide +kernel) (by decide +kernel)⟩
set_option maxRecDepth 100000 in
theorem fl_X5_9 : FL RX5 9 5 3 := ⟨_, rfl, by decide, gb_in (by decide +kernel) (by decide +kernel)⟩
set_option maxRecDepth 100000 in
theorem fl_X5_15 : FL RX5 15 5 4 := ⟨_, rfl, by decide, gb_in (by decide +kernel) (by decide +kernel)⟩
set_option maxRecDepth 100000 in
theorem fl_X5_19 : FL RX5 19 5 0 := ⟨_, rfl, by decide, gb_in (by decide +kernel) (by decide +kernel)⟩
set_option maxRecDepth 100000 in
theorem fl_X5_23 : FL RX5 23 5 1 := ⟨_, rfl, by decide, gb_in (by decide +kernel) (by decide +kernel)⟩
set_option maxRecDepth 100000 in
theorem fl_X5_27 : FL RX5 27 5 2 := ⟨_, rfl, by decide, gb_in (by decide +kernel) (by decide +kernel)⟩
set_option maxRecDepth 100000 in
theorem fl_X5_31 : FL RX5 31 8 9 := ⟨_, rfl, by decide, gb_in (by decide +kernel) (by decide +kernel)⟩
set_option maxRecDepth 100000 in
theorem fl_X5_38 : FL RX5 38 8 6 := ⟨_, rfl, by decide, gb_in (by decide +kernel) (by decide +kernel)⟩
set_option maxRecDepth 100000 in
theorem fl_X5_45 : FL RX5 45 8 5 := ⟨_, rfl, by decide, gb_in (by decide +kernel) (by decide +kernel)⟩
set_option maxRecDepth 100000 in
theorem fl_X5_48 : FL RX5 48 8 4 := ⟨_, rfl, by decide, gb_in (by decide +kernel) (by decide +kernel)⟩
set_option maxRecDepth 100000 in
theorem fl_X5_75 : FL RX5 75 0 7 := ⟨_, rfl, by decide, gb_in (by decide +kernel) (by decide +kernel)⟩
set_option maxRecDepth 100000 in
theorem fl_X5_84 : FL RX5 84 0 8 := ⟨_, rfl, by decide, gb_in (by decide +kernel) (by decide +kernel)⟩
set_option maxRecDepth 100000 in
theorem fl_X5_111 : FL RX5 111 8 7 := ⟨_, rfl, by decide, gb_in (by decide +kernel) (by decide +kernel)⟩
set_option maxRecDepth 100000 in
theorem fl_X6_9 : FL RX6 9 6 2 := ⟨_, rfl, by decide, gb_in (by decide +kernel) (by decide +kernel)⟩
set_option maxRecDepth 100000 in
theorem fl_X6_15 : FL RX6 15 6 3 := ⟨_, rfl, by decide, gb_in (by decide +kernel) (by decide +kernel)⟩
set_option maxRecDepth 100000 in
theorem fl_X6_18 : FL RX6 18 6 4 := ⟨_, rfl, by decide, gb_in (by decide +kernel) (by decide +kernel)⟩
set_option maxRecDepth 100000 in
theorem fl_X6_21 : FL RX6 21 6 5 := ⟨_, rfl, by decide, gb_in (by decide +kernel) (by decide +kernel)⟩
set_option maxRecDepth 100000 in
theorem fl_X6_25 : FL RX6 25 6 6 := ⟨_, rfl, by decide, gb_in (by decide +kernel) (by decide +kernel)⟩
set_option maxRecDepth 100000 in
theorem fl_X6_28 : FL RX6 28 6 0 := ⟨_, rfl, by decide, gb_in (by decide +kernel) (by decide +kernel)⟩
set_option maxRecDepth 100000 in
theorem fl_X6_32 : FL RX6 32 6 1 := ⟨_, rfl, by decide, gb_in (by decide +kernel) (by decide +kernel)⟩
set_option maxRecDepth 100000 in
theorem fl_X6_49 : FL RX6 49 7 4 := ⟨_, rfl, by decide, gb_in (by decide +kernel) (by decide +kernel)⟩
set_option maxRecDepth 100000 in
theorem fl_X6_64 : FL RX6 64 7 5 := ⟨_, rfl, by decide, gb_in (by decide +kernel) (by decide +kernel)⟩
set_option maxRecDepth 100000 in
theorem fl_X6_100 : FL RX6 100 7 6 := ⟨_, rfl, by decide, gb_in (by decide +kernel) (by decide +kernel)⟩
set_option maxRecDepth 100000 in
theorem fl_X6_103 : FL RX6 103 0 3 := ⟨_, rfl, by decide, gb_in (by decide +kernel) (by decide +kernel)⟩
set_option maxRecDepth 100000 in
theorem fl_X6_107 : FL RX6 107 0 4 := ⟨_, rfl, by decide, gb_in (by decide +kernel) (by decide +kernel)⟩
set_option maxRecDepth 100000 in
theorem fl_X6_109 : FL RX6 109 0 2 := ⟨_, rfl, by decide, gb_in (by decide +kernel) (by decide +kernel)⟩
set_option maxRecDepth 100000 in
theorem fl_X6_116 : FL RX6 116 0 5 := ⟨_, rfl, by decide, gb_in (by decide +kernel) (by decide +kernel)⟩
set_option maxRecDepth 100000 in
theorem fl_X6_119 : FL RX6 119 0 6 := ⟨_, rfl, by decide, gb_in (by decide +kernel) (by decide +kernel)⟩
set_option maxRecDepth 100000 in
theorem fl_X6_122 : FL RX6 122 0 7 := ⟨_, rfl, by decide, gb_in (by decide +kernel) (by decide +kernel)⟩
set_option maxRecDepth 100000 in
theorem fl_X6_125 : FL RX6 125 0 8 := ⟨_, rfl, by decide, gb_in (by decide +kernel) (by decide +kernel)⟩
set_option maxRecDepth 100000 in
theorem fl_X7_9 : FL RX7 9 7 0 := ⟨_, rfl, by decide, gb_in (by decide +kernel) (by decide +kernel)⟩
set_option maxRecDepth 100000 in
theorem fl_X7_13 : FL RX7 13 7 1 := ⟨_, rfl, by decide, gb_in (by decide +kernel) (by decide +kernel)⟩
set_option maxRecDepth 100000 in
theorem fl_X7_17 : FL RX7 17 7 2 := ⟨_, rfl, by decide, gb_in (by decide +kernel) (by decide +kernel)⟩
set_option maxRecDepth 100000 in
theorem fl_X7_20 : FL RX7 20 7 3 := ⟨_, rfl, by decide, gb_in (by decide +kernel) (by decide +kernel)⟩
set_option maxRecDepth 100000 in
theorem fl_X7_23 : FL RX7 23 7 4 := ⟨_, rfl, by decide, gb_in (by decide +kernel) (by decide +kernel)⟩
set_option maxRecDepth 100000 in
theorem fl_X7_26 : FL RX7 26 7 5 := ⟨_, rfl, by decide, gb_in (by decide +kernel) (by decide +kernel)⟩
set_option maxRecDepth 100000 in
theorem fl_X7_29 : FL RX7 29 7 6 := ⟨_, rfl, by decide, gb_in (by decide +kernel) (by decide +kernel)⟩
set_option maxRecDepth 100000 in
theorem fl_X8_9 : FL RX8 9 8 3 := ⟨_, rfl, by decide, gb_in (by decide +kernel) (by decide +kernel)⟩
set_option maxRecDepth 100000 in
theorem fl_X8_15 : FL RX8 15 8 4 := ⟨_, rfl, by decide, gb_in (by decide +kernel) (by decide +kernel)⟩
set_option maxRecDepth 100000 in
theorem fl_X8_18 : FL RX8 18 8 5 := ⟨_, rfl, by decide, gb_in (by decide +kernel) (by decide +kernel)⟩
set_option maxRecDepth 100000 in
theorem fl_X8_21 : FL RX8 21 8 6 := ⟨_, rfl, by decide, gb_in (by decide +kernel) (by decide +kernel)⟩
set_option maxRecDepth 100000 in
theorem fl_X8_24 : FL RX8 24 8 7 := ⟨_, rfl, by decide, gb_in (by decide +kernel) (by decide +kernel)⟩
set_option maxRecDepth 100000 in
theorem fl_X8_27 : FL RX8 27 8 8 := ⟨_, rfl, by decide, gb_in (by decide +kernel) (by decide +kernel)⟩
set_option maxRecDepth 100000 in
theorem fl_X8_30 : FL RX8 30 8 9 := ⟨_, rfl, by decide, gb_in (by decide +kernel) (by decide +kernel)⟩
set_option maxRecDepth 100000 in
theorem fl_X8_34 : FL RX8 34 8 10 := ⟨_, rfl, by decide, gb_in (by decide +kernel) (by decide +kernel)⟩
set_option maxRecDepth 100000 in
theorem fl_X8_37 : FL RX8 37 8 11 := ⟨_, rfl, by decide, gb_in (by decide +kernel) (by decide +kernel)⟩
set_option maxRecDepth 100000 in
theorem fl_X8_40 : FL RX8 40 8 12 := ⟨_, rfl, by decide, gb_in (by decide +kernel) (by decide +kernel)⟩
set_option maxRecDepth 100000 in
theorem fl_X8_43 : FL RX8 43 8 13 := ⟨_, rfl, by decide, gb_in (by decide +kernel) (by decide +kernel)⟩
set_option maxRecDepth 100000 in
theorem fl_X8_46 : FL RX8 46 8 14 := ⟨_, rfl, by decide, gb_in (by decide +kernel) (by decide +kernel)⟩
set_option maxRecDepth 100000 in
theorem fl_X8_50 : FL RX8 50 8 0 := ⟨_, rfl, by decide, gb_in (by decide +kernel) (by decide +kernel)⟩
set_option maxRecDepth 100000 in
theorem fl_X8_54 : FL RX8 54 8 1 := ⟨_, rfl, by decide, gb_in (by decide +kernel) (by decide +kernel)⟩
set_option maxRecDepth 100000 in
theorem fl_X8_58 : FL RX8 58 8 2 := ⟨_, rfl, by decide, gb_in (by decide +kernel) (by decide +kernel)⟩
set_option maxRecDepth 100000 in
theorem fl_X9_11 : FL RX9 11 9 3 := ⟨_, rfl, by decide, gb_in (by decide +kernel) (by decide +kernel)⟩
set_option maxRecDepth 100000 in
theorem fl_X9_15 : FL RX9 15 9 4 := ⟨_, rfl, by decide, gb_in (by decide +kernel) (by decide +kernel)⟩
set_option maxRecDepth 100000 in
theorem fl_X9_18 : FL RX9 18 9 5 := ⟨_, rfl, by decide, gb_in (by decide +kernel) (by decide +kernel)⟩
set_option maxRecDepth 100000 in
theorem fl_X9_21 : FL RX9 21 9 6 := ⟨_, rfl, by decide, gb_in (by decide +kernel) (by decide +kernel)⟩
set_option maxRecDepth 100000 in
theorem fl_X9_24 : FL RX9 24 9 7 := ⟨_, rfl, by decide, gb_in (by decide +kernel) (by decide +kernel)⟩
set_option maxRecDepth 100000 in
theorem fl_X9_28 : FL RX9 28 9 8 := ⟨_, rfl, by decide, gb_in (by decide +kernel) (by decide +kernel)⟩
set_option maxRecDepth 100000 in
theorem fl_X9_31 : FL RX9 31 9 9 := ⟨_, rfl, by decide, gb_in (by decide +kernel) (by decide +kernel)⟩
set_option maxRecDepth 100000 in
theorem fl_X9_34 : FL RX9 34 9 10 := ⟨_, rfl, by decide, gb_in (by decide +kernel) (by decide +kernel)⟩
set_option maxRecDepth 100000 in
theorem fl_X9_37 : FL RX9 37 9 11 := ⟨_, rfl, by decide, gb_in (by decide +kernel) (by decide +kernel)⟩
set_option maxRecDepth 100000 in
theorem fl_X9_41 : FL RX9 41 9 12 := ⟨_, rfl, by decide, gb_in (by decide +kernel) (by decide +kernel)⟩
set_option maxRecDepth 100000 in
theorem fl_X9_44 : FL RX9 44 9 0 := ⟨_, rfl, by decide, gb_in (by decide +kernel) (by decide +kernel)⟩
set_option maxRecDepth 100000 in
theorem fl_X9_48 : FL RX9 48 9 1 := ⟨_, rfl, by decide, gb_in (by decide +kernel) (by decide +kernel)⟩
set_option maxRecDepth 100000 in
theorem fl_X9_52 : FL RX9 52 9 2 := ⟨_, rfl, by decide, gb_in (by decide +kernel) (by decide +kernel)⟩
set_option maxRecDepth 100000 in
theorem fl_X9_56 : FL RX9 56 4 6 := ⟨_, rfl, by decide, gb_in (by decide +kernel) (by decide +kernel)⟩
set_option maxRecDepth 100000 in
theorem fl_X9_61 : FL RX9 61 4 4 := ⟨_, rfl, by decide, gb_in (by decide +kernel) (by decide +kernel)⟩
set_option maxRecDepth 100000 in
theorem fl_X9_81 : FL RX9 81 4 1 := ⟨_, rfl, by decide, gb_in (by decide +kernel) (by decide +kernel)⟩
set_option maxRecDepth 100000 in
theorem fl_X9_101 : FL RX9 101 0 2 := ⟨_, rfl, by decide, gb_in (by decide +kernel) (by decide +kernel)⟩
set_option maxRecDepth 100000 in
theorem fl_X9_115 : FL RX9 115 4 2 := ⟨_, rfl, by decide, gb_in (by decide +kernel) (by decide +kernel)⟩
set_option maxRecDepth 100000 in
theorem lk_X10_101 : LK RX10 101 yX7_hasRoom := gb_in (by decide +kernel) (by decide +kernel)
set_option maxRecDepth 100000 in
theorem lk_X10_105 : LK RX10 105 yX7_put := gb_in (by decide +kernel) (by decide +kernel)
set_option maxRecDepth 100000 in
theorem lk_X10_112 : LK RX10 112 yX10_refused := gb_in (by decide +kernel) (by decide +kernel)
set_option maxRecDepth 100000 in
theorem lk_X10_116 : LK RX10 116 yX6_reads := gb_in (by decide +kernel) (by decide +kernel)
set_option maxRecDepth 100000 in
theorem lk_X10_120 : LK RX10 120 yX0_copy := gb_in (by decide +kernel) (by decide +kernel)
set_option maxRecDepth 100000 in
theorem lk_X10_123 : LK RX10 123 yX2_clear := gb_in (by decide +kernel) (by decide +kernel)
set_option maxRecDepth 100000 in
theorem lk_X10_126 : LK RX10 126 yX10_startPlan := gb_in (by decide +kernel) (by decide +kernel)
set_option maxRecDepth 100000 in
theorem lk_X10_132 : LK RX10 132 yX10_told := gb_in (by decide +kernel) (by decide +kernel)
set_option maxRecDepth 100000 in
theorem lk_X10_159 : LK RX10 159 yX3_count := gb_in (by decide +kernel) (by decide +kernel)
set_option maxRecDepth 100000 in
theorem lk_X10_163 : LK RX10 163 yX3_parts := gb_in (by decide +kernel) (by decide +kernel)
set_option maxRecDepth 100000 in
theorem lk_X10_166 : LK RX10 166 yX3_odds := gb_in (by decide +kernel) (by decide +kernel)
set_option maxRecDepth 100000 in
theorem lk_X10_171 : LK RX10 171 yX10_hasStroke := gb_in (by decide +kernel) (by decide +kernel)
set_option maxRecDepth 100000 in
theorem lk_X10_181 : LK RX10 181 yX0_strokeLength := gb_in (by decide +kernel) (by decide +kernel)
set_option maxRecDepth 100000 in
theorem lk_X10_184 : LK RX10 184 yX3_of := gb_in (by decide +kernel) (by decide +kernel)
set_option maxRecDepth 100000 in
theorem lk_X10_187 : LK RX10 187 yX3_xOf := gb_in (by decide +kernel) (by decide +kernel)
set_option maxRecDepth 100000 in
theorem lk_X10_190 : LK RX10 190 yX3_yOf := gb_in (by decide +kernel) (by decide +kernel)
set_option maxRecDepth 100000 in
theorem lk_X10_196 : LK RX10 196 yX3_partOf := gb_in (by decide +kernel) (by decide +kernel)
set_option maxRecDepth 100000 in
theorem lk_X10_199 : LK RX10 199 yX3_firstEnd := gb_in (by decide +kernel) (by decide +kernel)
set_option maxRecDepth 100000 in
theorem lk_X10_202 : LK RX10 202 yX10_hasPart := gb_in (by decide +kernel) (by decide +kernel)
set_option maxRecDepth 100000 in
theorem lk_X10_205 : LK RX10 205 yX3_meetingsIn := gb_in (by decide +kernel) (by decide +kernel)
set_option maxRecDepth 100000 in
theorem lk_X10_208 : LK RX10 208 yX3_strokesIn := gb_in (by decide +kernel) (by decide +kernel)
set_option maxRecDepth 100000 in
theorem lk_X10_214 : LK RX10 214 yX3_trailsIn := gb_in (by decide +kernel) (by decide +kernel)
set_option maxRecDepth 100000 in
theorem lk_X10_217 : LK RX10 217 yX3_firstMeeting := gb_in (by decide +kernel) (by decide +kernel)
set_option maxRecDepth 100000 in
theorem lk_X10_220 : LK RX10 220 yX4_gapsIn := gb_in (by decide +kernel) (by decide +kernel)
set_option maxRecDepth 100000 in
theorem lk_X10_237 : LK RX10 237 yX9_waysIn := gb_in (by decide +kernel) (by decide +kernel)
set_option maxRecDepth 100000 in
theorem lk_X10_240 : LK RX10 240 yX9_wayOf := gb_in (by decide +kernel) (by decide +kernel)
set_option maxRecDepth 100000 in
theorem lk_X10_244 : LK RX10 244 yX10_hasPlace := gb_in (by decide +kernel) (by decide +kernel)
set_option maxRecDepth 100000 in
theorem lk_X10_247 : LK RX10 247 yX5_trailAt := gb_in (by decide +kernel) (by decide +kernel)
set_option maxRecDepth 100000 in
theorem lk_X10_255 : LK RX10 255 yX5_beginOf := gb_in (by decide +kernel) (by decide +kernel)
set_option maxRecDepth 100000 in
theorem lk_X10_258 : LK RX10 258 yX5_endOf := gb_in (by decide +kernel) (by decide +kernel)
set_option maxRecDepth 100000 in
theorem lk_X10_263 : LK RX10 263 yX5_isBackwards := gb_in (by decide +kernel) (by decide +kernel)
set_option maxRecDepth 100000 in
theorem lk_X10_266 : LK RX10 266 yX5_strokeAt := gb_in (by decide +kernel) (by decide +kernel)
set_option maxRecDepth 100000 in
theorem lk_X10_269 : LK RX10 269 yX5_wholeTravel := gb_in (by decide +kernel) (by decide +kernel)
set_option maxRecDepth 100000 in
theorem lk_X10_272 : LK RX10 272 yX5_start := gb_in (by decide +kernel) (by decide +kernel)
set_option maxRecDepth 100000 in
theorem lk_X10_275 : LK RX10 275 yX5_copy := gb_in (by decide +kernel) (by decide +kernel)
set_option maxRecDepth 100000 in
theorem lk_X10_278 : LK RX10 278 yX5_makeBetter := gb_in (by decide +kernel) (by decide +kernel)
set_option maxRecDepth 100000 in
theorem lk_X10_284 : LK RX10 284 yX5_changeBy := gb_in (by decide +kernel) (by decide +kernel)
set_option maxRecDepth 100000 in
theorem lk_X10_287 : LK RX10 287 yX8_leastTree := gb_in (by decide +kernel) (by decide +kernel)
set_option maxRecDepth 100000 in
theorem lk_X10_290 : LK RX10 290 yX5_wholeTime := gb_in (by decide +kernel) (by decide +kernel)
set_option maxRecDepth 100000 in
theorem lk_X10_294 : LK RX10 294 yX5_penAt := gb_in (by decide +kernel) (by decide +kernel)
set_option maxRecDepth 100000 in
theorem lk_X10_297 : LK RX10 297 yX5_longestPlace := gb_in (by decide +kernel) (by decide +kernel)
set_option maxRecDepth 100000 in
theorem lk_X10_300 : LK RX10 300 yX5_farthestLeg := gb_in (by decide +kernel) (by decide +kernel)
set_option maxRecDepth 100000 in
theorem lk_X10_303 : LK RX10 303 yX5_liftsBetween := gb_in (by decide +kernel) (by decide +kernel)
set_option maxRecDepth 100000 in
theorem lk_X10_309 : LK RX10 309 yX5_placeOf := gb_in (by decide +kernel) (by decide +kernel)
set_option maxRecDepth 100000 in
theorem lk_X10_312 : LK RX10 312 yX10_whyNoStroke := gb_in (by decide +kernel) (by decide +kernel)
set_option maxRecDepth 100000 in
theorem lk_X10_316 : LK RX10 316 yX0_putStroke := gb_in (by decide +kernel) (by decide +kernel)
set_option maxRecDepth 100000 in
theorem lk_X10_320 : LK RX10 320 yX10_trailsOfOther := gb_in (by decide +kernel) (by decide +kernel)
set_option maxRecDepth 100000 in
theorem lk_X10_323 : LK RX10 323 yX0_removeStroke := gb_in (by decide +kernel) (by decide +kernel)
set_option maxRecDepth 100000 in
theorem lk_X10_326 : LK RX10 326 yX10_leastJoinFor := gb_in (by decide +kernel) (by decide +kernel)
set_option maxRecDepth 100000 in
theorem lk_X10_329 : LK RX10 329 yX2_keep := gb_in (by decide +kernel) (by decide +kernel)
set_option maxRecDepth 100000 in
theorem lk_X10_333 : LK RX10 333 yX0_hasPoint := gb_in (by decide +kernel) (by decide +kernel)
set_option maxRecDepth 100000 in
theorem lk_X10_337 : LK RX10 337 yX10_isPace := gb_in (by decide +kernel) (by decide +kernel)
set_option maxRecDepth 100000 in
theorem lk_X10_340 : LK RX10 340 yX5_turnRun := gb_in (by decide +kernel) (by decide +kernel)
set_option maxRecDepth 100000 in
theorem lk_X10_347 : LK RX10 347 yX2_takeBack := gb_in (by decide +kernel) (by decide +kernel)
set_option maxRecDepth 100000 in
theorem lk_X10_350 : LK RX10 350 yX3_looseOne := gb_in (by decide +kernel) (by decide +kernel)
set_option maxRecDepth 100000 in
theorem lk_X10_361 : LK RX10 361 yX3_gather := gb_in (by decide +kernel) (by decide +kernel)
set_option maxRecDepth 100000 in
theorem lk_X10_364 : LK RX10 364 yX3_trailsInAll := gb_in (by decide +kernel) (by decide +kernel)
set_option maxRecDepth 100000 in
theorem lk_X10_367 : LK RX10 367 yX4_gather := gb_in (by decide +kernel) (by decide +kernel)
