theorem dX11_init_0 : decode cX11_init 0 = .ok (.aload_n 0, 1) := by decide +kernel
theorem dX11_init_1 : decode cX11_init 1 = .ok (.invokespecial 3, 3) := by decide +kernel
theorem dX11_init_4 : decode cX11_init 4 = .ok (.aload_n 0, 1) := by decide +kernel
theorem dX11_init_5 : decode cX11_init 5 = .ok (.iconst (-1), 1) := by decide +kernel
theorem dX11_init_6 : decode cX11_init 6 = .ok (.putfield 9, 3) := by decide +kernel
theorem dX11_init_9 : decode cX11_init 9 = .ok (.aload_n 0, 1) := by decide +kernel
theorem dX11_init_10 : decode cX11_init 10 = .ok (.sipush 700, 3) := by decide +kernel
theorem dX11_init_13 : decode cX11_init 13 = .ok (.newarray .int, 2) := by decide +kernel
theorem dX11_init_15 : decode cX11_init 15 = .ok (.putfield 13, 3) := by decide +kernel
theorem dX11_init_18 : decode cX11_init 18 = .ok (.aload_n 0, 1) := by decide +kernel
theorem dX11_init_19 : decode cX11_init 19 = .ok (.sipush 152, 3) := by decide +kernel
theorem dX11_init_22 : decode cX11_init 22 = .ok (.newarray .int, 2) := by decide +kernel
theorem dX11_init_24 : decode cX11_init 24 = .ok (.putfield 17, 3) := by decide +kernel
theorem dX11_init_27 : decode cX11_init 27 = .ok (.aload_n 0, 1) := by decide +kernel
theorem dX11_init_28 : decode cX11_init 28 = .ok (.sipush 152, 3) := by decide +kernel
theorem dX11_init_31 : decode cX11_init 31 = .ok (.newarray .int, 2) := by decide +kernel
theorem dX11_init_33 : decode cX11_init 33 = .ok (.putfield 20, 3) := by decide +kernel
theorem dX11_init_36 : decode cX11_init 36 = .ok (.aload_n 0, 1) := by decide +kernel
theorem dX11_init_37 : decode cX11_init 37 = .ok (.sipush 152, 3) := by decide +kernel
theorem dX11_init_40 : decode cX11_init 40 = .ok (.newarray .int, 2) := by decide +kernel
theorem dX11_init_42 : decode cX11_init 42 = .ok (.putfield 23, 3) := by decide +kernel
theorem dX11_init_45 : decode cX11_init 45 = .ok (.aload_n 0, 1) := by decide +kernel
theorem dX11_init_46 : decode cX11_init 46 = .ok (.sipush 1520, 3) := by decide +kernel
theorem dX11_init_49 : decode cX11_init 49 = .ok (.newarray .int, 2) := by decide +kernel
theorem dX11_init_51 : decode cX11_init 51 = .ok (.putfield 26, 3) := by decide +kernel
theorem dX11_init_54 : decode cX11_init 54 = .ok (.aload_n 0, 1) := by decide +kernel
theorem dX11_init_55 : decode cX11_init 55 = .ok (.bipush 48, 2) := by decide +kernel
theorem dX11_init_57 : decode cX11_init 57 = .ok (.newarray .int, 2) := by decide +kernel
theorem dX11_init_59 : decode cX11_init 59 = .ok (.putfield 29, 3) := by decide +kernel
theorem dX11_init_62 : decode cX11_init 62 = .ok (.aload_n 0, 1) := by decide +kernel
theorem dX11_init_63 : decode cX11_init 63 = .ok (.bipush 48, 2) := by decide +kernel
theorem dX11_init_65 : decode cX11_init 65 = .ok (.newarray .int, 2) := by decide +kernel
theorem dX11_init_67 : decode cX11_init 67 = .ok (.putfield 32, 3) := by decide +kernel
theorem dX11_init_70 : decode cX11_init 70 = .ok (.aload_n 0, 1) := by decide +kernel
theorem dX11_init_71 : decode cX11_init 71 = .ok (.bipush 48, 2) := by decide +kernel
theorem dX11_init_73 : decode cX11_init 73 = .ok (.newarray .int, 2) := by decide +kernel
theorem dX11_init_75 : decode cX11_init 75 = .ok (.putfield 35, 3) := by decide +kernel
theorem dX11_init_78 : decode cX11_init 78 = .ok (.aload_n 0, 1) := by decide +kernel
theorem dX11_init_79 : decode cX11_init 79 = .ok (.bipush 48, 2) := by decide +kernel
theorem dX11_init_81 : decode cX11_init 81 = .ok (.newarray .int, 2) := by decide +kernel
theorem dX11_init_83 : decode cX11_init 83 = .ok (.putfield 38, 3) := by decide +kernel
theorem dX11_init_86 : decode cX11_init 86 = .ok (.aload_n 0, 1) := by decide +kernel
theorem dX11_init_87 : decode cX11_init 87 = .ok (.bipush 24, 2) := by decide +kernel
theorem dX11_init_89 : decode cX11_init 89 = .ok (.newarray .int, 2) := by decide +kernel
theorem dX11_init_91 : decode cX11_init 91 = .ok (.putfield 41, 3) := by decide +kernel
theorem dX11_init_94 : decode cX11_init 94 = .ok (.aload_n 0, 1) := by decide +kernel
theorem dX11_init_95 : decode cX11_init 95 = .ok (.bipush 24, 2) := by decide +kernel
theorem dX11_init_97 : decode cX11_init 97 = .ok (.newarray .int, 2) := by decide +kernel
theorem dX11_init_99 : decode cX11_init 99 = .ok (.putfield 44, 3) := by decide +kernel
theorem dX11_init_102 : decode cX11_init 102 = .ok (.aload_n 0, 1) := by decide +kernel
theorem dX11_init_103 : decode cX11_init 103 = .ok (.bipush 24, 2) := by decide +kernel
theorem dX11_init_105 : decode cX11_init 105 = .ok (.newarray .int, 2) := by decide +kernel
theorem dX11_init_107 : decode cX11_init 107 = .ok (.putfield 47, 3) := by decide +kernel
theorem dX11_init_110 : decode cX11_init 110 = .ok (.aload_n 0, 1) := by decide +kernel
theorem dX11_init_111 : decode cX11_init 111 = .ok (.bipush 48, 2) := by decide +kernel
theorem dX11_init_113 : decode cX11_init 113 = .ok (.newarray .int, 2) := by decide +kernel
theorem dX11_init_115 : decode cX11_init 115 = .ok (.putfield 50, 3) := by decide +kernel
theorem dX11_init_118 : decode cX11_init 118 = .ok (.aload_n 0, 1) := by decide +kernel
theorem dX11_init_119 : decode cX11_init 119 = .ok (.bipush 48, 2) := by decide +kernel
theorem dX11_init_121 : decode cX11_init 121 = .ok (.newarray .int, 2) := by decide +kernel
theorem dX11_init_123 : decode cX11_init 123 = .ok (.putfield 53, 3) := by decide +kernel
theorem dX11_init_126 : decode cX11_init 126 = .ok (.aload_n 0, 1) := by decide +kernel
theorem dX11_init_127 : decode cX11_init 127 = .ok (.sipush 16384, 3) := by decide +kernel
theorem dX11_init_130 : decode cX11_init 130 = .ok (.newarray .int, 2) := by decide +kernel
theorem dX11_init_132 : decode cX11_init 132 = .ok (.putfield 56, 3) := by decide +kernel
theorem dX11_init_135 : decode cX11_init 135 = .ok (.aload_n 0, 1) := by decide +kernel
theorem dX11_init_136 : decode cX11_init 136 = .ok (.bipush 24, 2) := by decide +kernel
theorem dX11_init_138 : decode cX11_init 138 = .ok (.newarray .boolean, 2) := by decide +kernel
theorem dX11_init_140 : decode cX11_init 140 = .ok (.putfield 59, 3) := by decide +kernel
theorem dX11_init_143 : decode cX11_init 143 = .ok (.aload_n 0, 1) := by decide +kernel
theorem dX11_init_144 : decode cX11_init 144 = .ok (.bipush 24, 2) := by decide +kernel
theorem dX11_init_146 : decode cX11_init 146 = .ok (.newarray .boolean, 2) := by decide +kernel
theorem dX11_init_148 : decode cX11_init 148 = .ok (.putfield 63, 3) := by decide +kernel
theorem dX11_init_151 : decode cX11_init 151 = .ok (.aload_n 0, 1) := by decide +kernel
theorem dX11_init_152 : decode cX11_init 152 = .ok (.bipush 48, 2) := by decide +kernel
theorem dX11_init_154 : decode cX11_init 154 = .ok (.newarray .int, 2) := by decide +kernel
theorem dX11_init_156 : decode cX11_init 156 = .ok (.putfield 66, 3) := by decide +kernel
theorem dX11_init_159 : decode cX11_init 159 = .ok (.aload_n 0, 1) := by decide +kernel
theorem dX11_init_160 : decode cX11_init 160 = .ok (.bipush 49, 2) := by decide +kernel
theorem dX11_init_162 : decode cX11_init 162 = .ok (.newarray .int, 2) := by decide +kernel
theorem dX11_init_164 : decode cX11_init 164 = .ok (.putfield 69, 3) := by decide +kernel
theorem dX11_init_167 : decode cX11_init 167 = .ok (.aload_n 0, 1) := by decide +kernel
theorem dX11_init_168 : decode cX11_init 168 = .ok (.bipush 48, 2) := by decide +kernel
theorem dX11_init_170 : decode cX11_init 170 = .ok (.newarray .int, 2) := by decide +kernel
theorem dX11_init_172 : decode cX11_init 172 = .ok (.putfield 72, 3) := by decide +kernel
theorem dX11_init_175 : decode cX11_init 175 = .ok (.aload_n 0, 1) := by decide +kernel
theorem dX11_init_176 : decode cX11_init 176 = .ok (.bipush 49, 2) := by decide +kernel
theorem dX11_init_178 : decode cX11_init 178 = .ok (.newarray .int, 2) := by decide +kernel
theorem dX11_init_180 : decode cX11_init 180 = .ok (.putfield 75, 3) := by decide +kernel
theorem dX11_init_183 : decode cX11_init 183 = .ok (.aload_n 0, 1) := by decide +kernel
theorem dX11_init_184 : decode cX11_init 184 = .ok (.bipush 49, 2) := by decide +kernel
theorem dX11_init_186 : decode cX11_init 186 = .ok (.newarray .int, 2) := by decide +kernel
theorem dX11_init_188 : decode cX11_init 188 = .ok (.putfield 78, 3) := by decide +kernel
theorem dX11_init_191 : decode cX11_init 191 = .ok (.aload_n 0, 1) := by decide +kernel
theorem dX11_init_192 : decode cX11_init 192 = .ok (.bipush 48, 2) := by decide +kernel
theorem dX11_init_194 : decode cX11_init 194 = .ok (.newarray .int, 2) := by decide +kernel
theorem dX11_init_196 : decode cX11_init 196 = .ok (.putfield 81, 3) := by decide +kernel
theorem dX11_init_199 : decode cX11_init 199 = .ok (.aload_n 0, 1) := by decide +kernel
theorem dX11_init_200 : decode cX11_init 200 = .ok (.bipush 24, 2) := by decide +kernel
theorem dX11_init_202 : decode cX11_init 202 = .ok (.newarray .int, 2) := by decide +kernel
theorem dX11_init_204 : decode cX11_init 204 = .ok (.putfield 84, 3) := by decide +kernel
theorem dX11_init_207 : decode cX11_init 207 = .ok (.aload_n 0, 1) := by decide +kernel
theorem dX11_init_208 : decode cX11_init 208 = .ok (.bipush 24, 2) := by decide +kernel
theorem dX11_init_210 : decode cX11_init 210 = .ok (.newarray .int, 2) := by decide +kernel
theorem dX11_init_212 : decode cX11_init 212 = .ok (.putfield 87, 3) := by decide +kernel
theorem dX11_init_215 : decode cX11_init 215 = .ok (.aload_n 0, 1) := by decide +kernel
theorem dX11_init_216 : decode cX11_init 216 = .ok (.bipush 24, 2) := by decide +kernel
theorem dX11_init_218 : decode cX11_init 218 = .ok (.newarray .int, 2) := by decide +kernel
theorem dX11_init_220 : decode cX11_init 220 = .ok (.putfield 90, 3) := by decide +kernel
theorem dX11_init_223 : decode cX11_init 223 = .ok (.aload_n 0, 1) := by decide +kernel
theorem dX11_init_224 : decode cX11_init 224 = .ok (.bipush 24, 2) := by decide +kernel
theorem dX11_init_226 : decode cX11_init 226 = .ok (.newarray .int, 2) := by decide +kernel
theorem dX11_init_228 : decode cX11_init 228 = .ok (.putfield 93, 3) := by decide +kernel
theorem dX11_init_231 : decode cX11_init 231 = .ok (.aload_n 0, 1) := by decide +kernel
theorem dX11_init_232 : decode cX11_init 232 = .ok (.bipush 24, 2) := by decide +kernel
theorem dX11_init_234 : decode cX11_init 234 = .ok (.newarray .int, 2) := by decide +kernel
theorem dX11_init_236 : decode cX11_init 236 = .ok (.putfield 96, 3) := by decide +kernel
theorem dX11_init_239 : decode cX11_init 239 = .ok (.return_, 1) := by decide +kernel
theorem dX11_thrown_0 : decode cX11_thrown 0 = .ok (.aload_n 0, 1) := by decide +kernel
theorem dX11_thrown_1 : decode cX11_thrown 1 = .ok (.getfield 99, 3) := by decide +kernel
theorem dX11_thrown_4 : decode cX11_thrown 4 = .ok (.ireturn, 1) := by decide +kernel
theorem dX11_in_0 : decode cX11_in 0 = .ok (.iload_n 0, 1) := by decide +kernel
theorem dX11_in_1 : decode cX11_in 1 = .ok (.iload_n 1, 1) := by decide +kernel
theorem dX11_in_2 : decode cX11_in 2 = .ok (.if_icmp .lt 12, 3) := by decide +kernel
theorem dX11_in_5 : decode cX11_in 5 = .ok (.iload_n 0, 1) := by decide +kernel
theorem dX11_in_6 : decode cX11_in 6 = .ok (.iload_n 2, 1) := by decide +kernel
theorem dX11_in_7 : decode cX11_in 7 = .ok (.if_icmp .gt 7, 3) := by decide +kernel
theorem dX11_in_10 : decode cX11_in 10 = .ok (.iconst 1, 1) := by decide +kernel
theorem dX11_in_11 : decode cX11_in 11 = .ok (.goto 4, 3) := by decide +kernel
theorem dX11_in_14 : decode cX11_in 14 = .ok (.iconst 0, 1) := by decide +kernel
theorem dX11_in_15 : decode cX11_in 15 = .ok (.ireturn, 1) := by decide +kernel
theorem dX11_abs_0 : decode cX11_abs 0 = .ok (.iload_n 0, 1) := by decide +kernel
theorem dX11_abs_1 : decode cX11_abs 1 = .ok (.ifCond .ge 8, 3) := by decide +kernel
theorem dX11_abs_4 : decode cX11_abs 4 = .ok (.iload_n 0, 1) := by decide +kernel
theorem dX11_abs_5 : decode cX11_abs 5 = .ok (.ineg, 1) := by decide +kernel
theorem dX11_abs_6 : decode cX11_abs 6 = .ok (.goto 4, 3) := by decide +kernel
theorem dX11_abs_9 : decode cX11_abs 9 = .ok (.iload_n 0, 1) := by decide +kernel
theorem dX11_abs_10 : decode cX11_abs 10 = .ok (.ireturn, 1) := by decide +kernel
theorem dX11_no_0 : decode cX11_no 0 = .ok (.aload_n 0, 1) := by decide +kernel
theorem dX11_no_1 : decode cX11_no 1 = .ok (.iload_n 1, 1) := by decide +kernel
theorem dX11_no_2 : decode cX11_no 2 = .ok (.putfield 102, 3) := by decide +kernel
theorem dX11_no_5 : decode cX11_no 5 = .ok (.iconst (-1), 1) := by decide +kernel
theorem dX11_no_6 : decode cX11_no 6 = .ok (.ireturn, 1) := by decide +kernel
theorem dX11_isRefused_0 : decode cX11_isRefused 0 = .ok (.aload_n 0, 1) := by decide +kernel
theorem dX11_isRefused_1 : decode cX11_isRefused 1 = .ok (.iconst 0, 1) := by decide +kernel
theorem dX11_isRefused_2 : decode cX11_isRefused 2 = .ok (.putfield 99, 3) := by decide +kernel
theorem dX11_isRefused_5 : decode cX11_isRefused 5 = .ok (.aload_n 0, 1) := by decide +kernel
theorem dX11_isRefused_6 : decode cX11_isRefused 6 = .ok (.iconst (-1), 1) := by decide +kernel
theorem dX11_isRefused_7 : decode cX11_isRefused 7 = .ok (.putfield 9, 3) := by decide +kernel
theorem dX11_isRefused_10 : decode cX11_isRefused 10 = .ok (.aload_n 0, 1) := by decide +kernel
theorem dX11_isRefused_11 : decode cX11_isRefused 11 = .ok (.iload_n 1, 1) := by decide +kernel
theorem dX11_isRefused_12 : decode cX11_isRefused 12 = .ok (.putfield 102, 3) := by decide +kernel
theorem dX11_isRefused_15 : decode cX11_isRefused 15 = .ok (.iload_n 1, 1) := by decide +kernel
theorem dX11_isRefused_16 : decode cX11_isRefused 16 = .ok (.ifCond .eq 7, 3) := by decide +kernel
theorem dX11_isRefused_19 : decode cX11_isRefused 19 = .ok (.iconst 1, 1) := by decide +kernel
theorem dX11_isRefused_20 : decode cX11_isRefused 20 = .ok (.goto 4, 3) := by decide +kernel
theorem dX11_isRefused_23 : decode cX11_isRefused 23 = .ok (.iconst 0, 1) := by decide +kernel
theorem dX11_isRefused_24 : decode cX11_isRefused 24 = .ok (.ireturn, 1) := by decide +kernel
theorem dX11_unless_0 : decode cX11_unless 0 = .ok (.iload_n 0, 1) := by decide +kernel
theorem dX11_unless_1 : decode cX11_unless 1 = .ok (.ifCond .eq 7, 3) := by decide +kernel
theorem dX11_unless_4 : decode cX11_unless 4 = .ok (.iconst 0, 1) := by decide +kernel
theorem dX11_unless_5 : decode cX11_unless 5 = .ok (.goto 4, 3) := by decide +kernel
theorem dX11_unless_8 : decode cX11_unless 8 = .ok (.iconst 1, 1) := by decide +kernel
theorem dX11_unless_9 : decode cX11_unless 9 = .ok (.ireturn, 1) := by decide +kernel
theorem dX11_unless__0 : decode cX11_unless_ 0 = .ok (.iload_n 0, 1) := by decide +kernel
theorem dX11_unless__1 : decode cX11_unless_ 1 = .ok (.ifCond .ne 7, 3) := by decide +kernel
theorem dX11_unless__4 : decode cX11_unless_ 4 = .ok (.iconst 1, 1) := by decide +kernel
theorem dX11_unless__5 : decode cX11_unless_ 5 = .ok (.goto 12, 3) := by decide +kernel
theorem dX11_unless__8 : decode cX11_unless_ 8 = .ok (.iload_n 1, 1) := by decide +kernel
theorem dX11_unless__9 : decode cX11_unless_ 9 = .ok (.ifCond .eq 7, 3) := by decide +kernel
theorem dX11_unless__12 : decode cX11_unless_ 12 = .ok (.iconst 0, 1) := by decide +kernel
theorem dX11_unless__13 : decode cX11_unless_ 13 = .ok (.goto 4, 3) := by decide +kernel
theorem dX11_unless__16 : decode cX11_unless_ 16 = .ok (.iconst 2, 1) := by decide +kernel
theorem dX11_unless__17 : decode cX11_unless_ 17 = .ok (.ireturn, 1) := by decide +kernel
theorem dX11_feed_0 : decode cX11_feed 0 = .ok (.aload_n 0, 1) := by decide +kernel
theorem dX11_feed_1 : decode cX11_feed 1 = .ok (.iconst 0, 1) := by decide +kernel
theorem dX11_feed_2 : decode cX11_feed 2 = .ok (.putfield 99, 3) := by decide +kernel
theorem dX11_feed_5 : decode cX11_feed 5 = .ok (.aload_n 0, 1) := by decide +kernel
theorem dX11_feed_6 : decode cX11_feed 6 = .ok (.getfield 105, 3) := by decide +kernel
theorem dX11_feed_9 : decode cX11_feed 9 = .ok (.sipush 680, 3) := by decide +kernel
theorem dX11_feed_12 : decode cX11_feed 12 = .ok (.if_icmp .le 5, 3) := by decide +kernel
theorem dX11_feed_15 : decode cX11_feed 15 = .ok (.iconst (-1), 1) := by decide +kernel
theorem dX11_feed_16 : decode cX11_feed 16 = .ok (.ireturn, 1) := by decide +kernel
theorem dX11_feed_17 : decode cX11_feed 17 = .ok (.aload_n 0, 1) := by decide +kernel
theorem dX11_feed_18 : decode cX11_feed 18 = .ok (.iload_n 1, 1) := by decide +kernel
theorem dX11_feed_19 : decode cX11_feed 19 = .ok (.invokevirtual 108, 3) := by decide +kernel
theorem dX11_feed_22 : decode cX11_feed 22 = .ok (.aload_n 0, 1) := by decide +kernel
theorem dX11_feed_23 : decode cX11_feed 23 = .ok (.iload_n 2, 1) := by decide +kernel
theorem dX11_feed_24 : decode cX11_feed 24 = .ok (.invokevirtual 108, 3) := by decide +kernel
theorem dX11_feed_27 : decode cX11_feed 27 = .ok (.aload_n 0, 1) := by decide +kernel
theorem dX11_feed_28 : decode cX11_feed 28 = .ok (.iload_n 3, 1) := by decide +kernel
theorem dX11_feed_29 : decode cX11_feed 29 = .ok (.invokevirtual 108, 3) := by decide +kernel
theorem dX11_feed_32 : decode cX11_feed 32 = .ok (.aload_n 0, 1) := by decide +kernel
theorem dX11_feed_33 : decode cX11_feed 33 = .ok (.iload 4, 2) := by decide +kernel
theorem dX11_feed_35 : decode cX11_feed 35 = .ok (.invokevirtual 108, 3) := by decide +kernel
theorem dX11_feed_38 : decode cX11_feed 38 = .ok (.aload_n 0, 1) := by decide +kernel
theorem dX11_feed_39 : decode cX11_feed 39 = .ok (.iload 5, 2) := by decide +kernel
theorem dX11_feed_41 : decode cX11_feed 41 = .ok (.invokevirtual 108, 3) := by decide +kernel
theorem dX11_feed_44 : decode cX11_feed 44 = .ok (.aload_n 0, 1) := by decide +kernel
theorem dX11_feed_45 : decode cX11_feed 45 = .ok (.getfield 105, 3) := by decide +kernel
theorem dX11_feed_48 : decode cX11_feed 48 = .ok (.ireturn, 1) := by decide +kernel
theorem dX11_laysWord_0 : decode cX11_laysWord 0 = .ok (.iconst 0, 1) := by decide +kernel
theorem dX11_laysWord_1 : decode cX11_laysWord 1 = .ok (.istore_n 2, 1) := by decide +kernel
theorem dX11_laysWord_2 : decode cX11_laysWord 2 = .ok (.iload_n 2, 1) := by decide +kernel
theorem dX11_laysWord_3 : decode cX11_laysWord 3 = .ok (.iconst 4, 1) := by decide +kernel
theorem dX11_laysWord_4 : decode cX11_laysWord 4 = .ok (.if_icmp .ge 33, 3) := by decide +kernel
theorem dX11_laysWord_7 : decode cX11_laysWord 7 = .ok (.aload_n 0, 1) := by decide +kernel
theorem dX11_laysWord_8 : decode cX11_laysWord 8 = .ok (.getfield 13, 3) := by decide +kernel
theorem dX11_laysWord_11 : decode cX11_laysWord 11 = .ok (.aload_n 0, 1) := by decide +kernel
theorem dX11_laysWord_12 : decode cX11_laysWord 12 = .ok (.getfield 105, 3) := by decide +kernel
theorem dX11_laysWord_15 : decode cX11_laysWord 15 = .ok (.iload_n 2, 1) := by decide +kernel
theorem dX11_laysWord_16 : decode cX11_laysWord 16 = .ok (.iadd, 1) := by decide +kernel
theorem dX11_laysWord_17 : decode cX11_laysWord 17 = .ok (.iload_n 1, 1) := by decide +kernel
theorem dX11_laysWord_18 : decode cX11_laysWord 18 = .ok (.bipush 24, 2) := by decide +kernel
theorem dX11_laysWord_20 : decode cX11_laysWord 20 = .ok (.bipush 8, 2) := by decide +kernel
theorem dX11_laysWord_22 : decode cX11_laysWord 22 = .ok (.iload_n 2, 1) := by decide +kernel
theorem dX11_laysWord_23 : decode cX11_laysWord 23 = .ok (.imul, 1) := by decide +kernel
theorem dX11_laysWord_24 : decode cX11_laysWord 24 = .ok (.isub, 1) := by decide +kernel
theorem dX11_laysWord_25 : decode cX11_laysWord 25 = .ok (.ishr, 1) := by decide +kernel
theorem dX11_laysWord_26 : decode cX11_laysWord 26 = .ok (.sipush 255, 3) := by decide +kernel
theorem dX11_laysWord_29 : decode cX11_laysWord 29 = .ok (.iand, 1) := by decide +kernel
theorem dX11_laysWord_30 : decode cX11_laysWord 30 = .ok (.iastore, 1) := by decide +kernel
theorem dX11_laysWord_31 : decode cX11_laysWord 31 = .ok (.iinc 2 1, 3) := by decide +kernel
theorem dX11_laysWord_34 : decode cX11_laysWord 34 = .ok (.goto (-32), 3) := by decide +kernel
theorem dX11_laysWord_37 : decode cX11_laysWord 37 = .ok (.aload_n 0, 1) := by decide +kernel
theorem dX11_laysWord_38 : decode cX11_laysWord 38 = .ok (.dup, 1) := by decide +kernel
theorem dX11_laysWord_39 : decode cX11_laysWord 39 = .ok (.getfield 105, 3) := by decide +kernel
theorem dX11_laysWord_42 : decode cX11_laysWord 42 = .ok (.iconst 4, 1) := by decide +kernel
theorem dX11_laysWord_43 : decode cX11_laysWord 43 = .ok (.iadd, 1) := by decide +kernel
theorem dX11_laysWord_44 : decode cX11_laysWord 44 = .ok (.putfield 105, 3) := by decide +kernel
theorem dX11_laysWord_47 : decode cX11_laysWord 47 = .ok (.return_, 1) := by decide +kernel
theorem dX11_copies_0 : decode cX11_copies 0 = .ok (.iconst 0, 1) := by decide +kernel
theorem dX11_copies_1 : decode cX11_copies 1 = .ok (.istore 4, 2) := by decide +kernel
theorem dX11_copies_3 : decode cX11_copies 3 = .ok (.iload 4, 2) := by decide +kernel
theorem dX11_copies_5 : decode cX11_copies 5 = .ok (.sipush 152, 3) := by decide +kernel
theorem dX11_copies_8 : decode cX11_copies 8 = .ok (.if_icmp .ge 21, 3) := by decide +kernel
theorem dX11_copies_11 : decode cX11_copies 11 = .ok (.aload_n 2, 1) := by decide +kernel
theorem dX11_copies_12 : decode cX11_copies 12 = .ok (.iload_n 3, 1) := by decide +kernel
theorem dX11_copies_13 : decode cX11_copies 13 = .ok (.iload 4, 2) := by decide +kernel
theorem dX11_copies_15 : decode cX11_copies 15 = .ok (.iadd, 1) := by decide +kernel
theorem dX11_copies_16 : decode cX11_copies 16 = .ok (.aload_n 0, 1) := by decide +kernel
theorem dX11_copies_17 : decode cX11_copies 17 = .ok (.iload_n 1, 1) := by decide +kernel
theorem dX11_copies_18 : decode cX11_copies 18 = .ok (.iload 4, 2) := by decide +kernel
theorem dX11_copies_20 : decode cX11_copies 20 = .ok (.iadd, 1) := by decide +kernel
theorem dX11_copies_21 : decode cX11_copies 21 = .ok (.iaload, 1) := by decide +kernel
theorem dX11_copies_22 : decode cX11_copies 22 = .ok (.iastore, 1) := by decide +kernel
theorem dX11_copies_23 : decode cX11_copies 23 = .ok (.iinc 4 1, 3) := by decide +kernel
theorem dX11_copies_26 : decode cX11_copies 26 = .ok (.goto (-23), 3) := by decide +kernel
theorem dX11_copies_29 : decode cX11_copies 29 = .ok (.return_, 1) := by decide +kernel
theorem dX11_see_0 : decode cX11_see 0 = .ok (.iload_n 1, 1) := by decide +kernel
theorem dX11_see_1 : decode cX11_see 1 = .ok (.aload_n 0, 1) := by decide +kernel
theorem dX11_see_2 : decode cX11_see 2 = .ok (.getfield 112, 3) := by decide +kernel
theorem dX11_see_5 : decode cX11_see 5 = .ok (.if_icmp .ge 12, 3) := by decide +kernel
theorem dX11_see_8 : decode cX11_see 8 = .ok (.aload_n 0, 1) := by decide +kernel
theorem dX11_see_9 : decode cX11_see 9 = .ok (.getfield 13, 3) := by decide +kernel
theorem dX11_see_12 : decode cX11_see 12 = .ok (.iload_n 1, 1) := by decide +kernel
theorem dX11_see_13 : decode cX11_see 13 = .ok (.iaload, 1) := by decide +kernel
theorem dX11_see_14 : decode cX11_see 14 = .ok (.goto 4, 3) := by decide +kernel
theorem dX11_see_17 : decode cX11_see 17 = .ok (.iconst (-1), 1) := by decide +kernel
theorem dX11_see_18 : decode cX11_see 18 = .ok (.ireturn, 1) := by decide +kernel
theorem dX11_goesOn_0 : decode cX11_goesOn 0 = .ok (.aload_n 0, 1) := by decide +kernel
theorem dX11_goesOn_1 : decode cX11_goesOn 1 = .ok (.aload_n 0, 1) := by decide +kernel
theorem dX11_goesOn_2 : decode cX11_goesOn 2 = .ok (.getfield 115, 3) := by decide +kernel
theorem dX11_goesOn_5 : decode cX11_goesOn 5 = .ok (.invokevirtual 118, 3) := by decide +kernel
theorem dX11_goesOn_8 : decode cX11_goesOn 8 = .ok (.bipush 32, 2) := by decide +kernel
theorem dX11_goesOn_10 : decode cX11_goesOn 10 = .ok (.if_icmp .ne 16, 3) := by decide +kernel
theorem dX11_goesOn_13 : decode cX11_goesOn 13 = .ok (.aload_n 0, 1) := by decide +kernel
theorem dX11_goesOn_14 : decode cX11_goesOn 14 = .ok (.dup, 1) := by decide +kernel
theorem dX11_goesOn_15 : decode cX11_goesOn 15 = .ok (.getfield 115, 3) := by decide +kernel
theorem dX11_goesOn_18 : decode cX11_goesOn 18 = .ok (.iconst 1, 1) := by decide +kernel
theorem dX11_goesOn_19 : decode cX11_goesOn 19 = .ok (.iadd, 1) := by decide +kernel
theorem dX11_goesOn_20 : decode cX11_goesOn 20 = .ok (.putfield 115, 3) := by decide +kernel
theorem dX11_goesOn_23 : decode cX11_goesOn 23 = .ok (.goto (-23), 3) := by decide +kernel
theorem dX11_goesOn_26 : decode cX11_goesOn 26 = .ok (.aload_n 0, 1) := by decide +kernel
theorem dX11_goesOn_27 : decode cX11_goesOn 27 = .ok (.aload_n 0, 1) := by decide +kernel
theorem dX11_goesOn_28 : decode cX11_goesOn 28 = .ok (.getfield 115, 3) := by decide +kernel
theorem dX11_goesOn_31 : decode cX11_goesOn 31 = .ok (.putfield 122, 3) := by decide +kernel
theorem dX11_goesOn_34 : decode cX11_goesOn 34 = .ok (.aload_n 0, 1) := by decide +kernel
theorem dX11_goesOn_35 : decode cX11_goesOn 35 = .ok (.aload_n 0, 1) := by decide +kernel
theorem dX11_goesOn_36 : decode cX11_goesOn 36 = .ok (.getfield 115, 3) := by decide +kernel
theorem dX11_goesOn_39 : decode cX11_goesOn 39 = .ok (.invokevirtual 118, 3) := by decide +kernel
theorem dX11_goesOn_42 : decode cX11_goesOn 42 = .ok (.istore_n 1, 1) := by decide +kernel
theorem dX11_goesOn_43 : decode cX11_goesOn 43 = .ok (.iload_n 1, 1) := by decide +kernel
theorem dX11_goesOn_44 : decode cX11_goesOn 44 = .ok (.iconst (-1), 1) := by decide +kernel
theorem dX11_goesOn_45 : decode cX11_goesOn 45 = .ok (.if_icmp .ne 9, 3) := by decide +kernel
theorem dX11_goesOn_48 : decode cX11_goesOn 48 = .ok (.aload_n 0, 1) := by decide +kernel
theorem dX11_goesOn_49 : decode cX11_goesOn 49 = .ok (.iconst 0, 1) := by decide +kernel
theorem dX11_goesOn_50 : decode cX11_goesOn 50 = .ok (.putfield 125, 3) := by decide +kernel
theorem dX11_goesOn_53 : decode cX11_goesOn 53 = .ok (.return_, 1) := by decide +kernel
theorem dX11_goesOn_54 : decode cX11_goesOn 54 = .ok (.iload_n 1, 1) := by decide +kernel
theorem dX11_goesOn_55 : decode cX11_goesOn 55 = .ok (.bipush 97, 2) := by decide +kernel
theorem dX11_goesOn_57 : decode cX11_goesOn 57 = .ok (.bipush 122, 2) := by decide +kernel
theorem dX11_goesOn_59 : decode cX11_goesOn 59 = .ok (.invokestatic 128, 3) := by decide +kernel
theorem dX11_goesOn_62 : decode cX11_goesOn 62 = .ok (.ifCond .eq 58, 3) := by decide +kernel
theorem dX11_goesOn_65 : decode cX11_goesOn 65 = .ok (.aload_n 0, 1) := by decide +kernel
theorem dX11_goesOn_66 : decode cX11_goesOn 66 = .ok (.aload_n 0, 1) := by decide +kernel
theorem dX11_goesOn_67 : decode cX11_goesOn 67 = .ok (.getfield 115, 3) := by decide +kernel
theorem dX11_goesOn_70 : decode cX11_goesOn 70 = .ok (.invokevirtual 118, 3) := by decide +kernel
theorem dX11_goesOn_73 : decode cX11_goesOn 73 = .ok (.bipush 97, 2) := by decide +kernel
theorem dX11_goesOn_75 : decode cX11_goesOn 75 = .ok (.bipush 122, 2) := by decide +kernel
theorem dX11_goesOn_77 : decode cX11_goesOn 77 = .ok (.invokestatic 128, 3) := by decide +kernel
theorem dX11_goesOn_80 : decode cX11_goesOn 80 = .ok (.ifCond .eq 16, 3) := by decide +kernel
theorem dX11_goesOn_83 : decode cX11_goesOn 83 = .ok (.aload_n 0, 1) := by decide +kernel
theorem dX11_goesOn_84 : decode cX11_goesOn 84 = .ok (.dup, 1) := by decide +kernel
theorem dX11_goesOn_85 : decode cX11_goesOn 85 = .ok (.getfield 115, 3) := by decide +kernel
theorem dX11_goesOn_88 : decode cX11_goesOn 88 = .ok (.iconst 1, 1) := by decide +kernel
theorem dX11_goesOn_89 : decode cX11_goesOn 89 = .ok (.iadd, 1) := by decide +kernel
theorem dX11_goesOn_90 : decode cX11_goesOn 90 = .ok (.putfield 115, 3) := by decide +kernel
theorem dX11_goesOn_93 : decode cX11_goesOn 93 = .ok (.goto (-28), 3) := by decide +kernel
theorem dX11_goesOn_96 : decode cX11_goesOn 96 = .ok (.aload_n 0, 1) := by decide +kernel
theorem dX11_goesOn_97 : decode cX11_goesOn 97 = .ok (.aload_n 0, 1) := by decide +kernel
theorem dX11_goesOn_98 : decode cX11_goesOn 98 = .ok (.getfield 115, 3) := by decide +kernel
theorem dX11_goesOn_101 : decode cX11_goesOn 101 = .ok (.aload_n 0, 1) := by decide +kernel
theorem dX11_goesOn_102 : decode cX11_goesOn 102 = .ok (.getfield 122, 3) := by decide +kernel
theorem dX11_goesOn_105 : decode cX11_goesOn 105 = .ok (.isub, 1) := by decide +kernel
theorem dX11_goesOn_106 : decode cX11_goesOn 106 = .ok (.bipush 6, 2) := by decide +kernel
theorem dX11_goesOn_108 : decode cX11_goesOn 108 = .ok (.if_icmp .le 7, 3) := by decide +kernel
theorem dX11_goesOn_111 : decode cX11_goesOn 111 = .ok (.iconst 1, 1) := by decide +kernel
theorem dX11_goesOn_112 : decode cX11_goesOn 112 = .ok (.goto 4, 3) := by decide +kernel
theorem dX11_goesOn_115 : decode cX11_goesOn 115 = .ok (.iconst 2, 1) := by decide +kernel
theorem dX11_goesOn_116 : decode cX11_goesOn 116 = .ok (.putfield 125, 3) := by decide +kernel
theorem dX11_goesOn_119 : decode cX11_goesOn 119 = .ok (.return_, 1) := by decide +kernel
theorem dX11_goesOn_120 : decode cX11_goesOn 120 = .ok (.iload_n 1, 1) := by decide +kernel
theorem dX11_goesOn_121 : decode cX11_goesOn 121 = .ok (.bipush 48, 2) := by decide +kernel
theorem dX11_goesOn_123 : decode cX11_goesOn 123 = .ok (.bipush 57, 2) := by decide +kernel
theorem dX11_goesOn_125 : decode cX11_goesOn 125 = .ok (.invokestatic 128, 3) := by decide +kernel
theorem dX11_goesOn_128 : decode cX11_goesOn 128 = .ok (.ifCond .eq 105, 3) := by decide +kernel
theorem dX11_goesOn_131 : decode cX11_goesOn 131 = .ok (.aload_n 0, 1) := by decide +kernel
theorem dX11_goesOn_132 : decode cX11_goesOn 132 = .ok (.iconst 0, 1) := by decide +kernel
theorem dX11_goesOn_133 : decode cX11_goesOn 133 = .ok (.putfield 132, 3) := by decide +kernel
theorem dX11_goesOn_136 : decode cX11_goesOn 136 = .ok (.aload_n 0, 1) := by decide +kernel
theorem dX11_goesOn_137 : decode cX11_goesOn 137 = .ok (.aload_n 0, 1) := by decide +kernel
theorem dX11_goesOn_138 : decode cX11_goesOn 138 = .ok (.getfield 115, 3) := by decide +kernel
theorem dX11_goesOn_141 : decode cX11_goesOn 141 = .ok (.invokevirtual 118, 3) := by decide +kernel
theorem dX11_goesOn_144 : decode cX11_goesOn 144 = .ok (.bipush 48, 2) := by decide +kernel
theorem dX11_goesOn_146 : decode cX11_goesOn 146 = .ok (.bipush 57, 2) := by decide +kernel
theorem dX11_goesOn_148 : decode cX11_goesOn 148 = .ok (.invokestatic 128, 3) := by decide +kernel
theorem dX11_goesOn_151 : decode cX11_goesOn 151 = .ok (.ifCond .eq 59, 3) := by decide +kernel
theorem dX11_goesOn_154 : decode cX11_goesOn 154 = .ok (.aload_n 0, 1) := by decide +kernel
theorem dX11_goesOn_155 : decode cX11_goesOn 155 = .ok (.aload_n 0, 1) := by decide +kernel
theorem dX11_goesOn_156 : decode cX11_goesOn 156 = .ok (.getfield 115, 3) := by decide +kernel
theorem dX11_goesOn_159 : decode cX11_goesOn 159 = .ok (.aload_n 0, 1) := by decide +kernel
theorem dX11_goesOn_160 : decode cX11_goesOn 160 = .ok (.getfield 122, 3) := by decide +kernel
theorem dX11_goesOn_163 : decode cX11_goesOn 163 = .ok (.isub, 1) := by decide +kernel
theorem dX11_goesOn_164 : decode cX11_goesOn 164 = .ok (.iconst 3, 1) := by decide +kernel
theorem dX11_goesOn_165 : decode cX11_goesOn 165 = .ok (.if_icmp .ge 25, 3) := by decide +kernel
theorem dX11_goesOn_168 : decode cX11_goesOn 168 = .ok (.bipush 10, 2) := by decide +kernel
theorem dX11_goesOn_170 : decode cX11_goesOn 170 = .ok (.aload_n 0, 1) := by decide +kernel
theorem dX11_goesOn_171 : decode cX11_goesOn 171 = .ok (.getfield 132, 3) := by decide +kernel
theorem dX11_goesOn_174 : decode cX11_goesOn 174 = .ok (.imul, 1) := by decide +kernel
theorem dX11_goesOn_175 : decode cX11_goesOn 175 = .ok (.aload_n 0, 1) := by decide +kernel
theorem dX11_goesOn_176 : decode cX11_goesOn 176 = .ok (.aload_n 0, 1) := by decide +kernel
theorem dX11_goesOn_177 : decode cX11_goesOn 177 = .ok (.getfield 115, 3) := by decide +kernel
theorem dX11_goesOn_180 : decode cX11_goesOn 180 = .ok (.invokevirtual 118, 3) := by decide +kernel
theorem dX11_goesOn_183 : decode cX11_goesOn 183 = .ok (.iadd, 1) := by decide +kernel
theorem dX11_goesOn_184 : decode cX11_goesOn 184 = .ok (.bipush 48, 2) := by decide +kernel
theorem dX11_goesOn_186 : decode cX11_goesOn 186 = .ok (.isub, 1) := by decide +kernel
theorem dX11_goesOn_187 : decode cX11_goesOn 187 = .ok (.goto 7, 3) := by decide +kernel
theorem dX11_goesOn_190 : decode cX11_goesOn 190 = .ok (.aload_n 0, 1) := by decide +kernel
theorem dX11_goesOn_191 : decode cX11_goesOn 191 = .ok (.getfield 132, 3) := by decide +kernel
theorem dX11_goesOn_194 : decode cX11_goesOn 194 = .ok (.putfield 132, 3) := by decide +kernel
theorem dX11_goesOn_197 : decode cX11_goesOn 197 = .ok (.aload_n 0, 1) := by decide +kernel
theorem dX11_goesOn_198 : decode cX11_goesOn 198 = .ok (.dup, 1) := by decide +kernel
theorem dX11_goesOn_199 : decode cX11_goesOn 199 = .ok (.getfield 115, 3) := by decide +kernel
theorem dX11_goesOn_202 : decode cX11_goesOn 202 = .ok (.iconst 1, 1) := by decide +kernel
theorem dX11_goesOn_203 : decode cX11_goesOn 203 = .ok (.iadd, 1) := by decide +kernel
theorem dX11_goesOn_204 : decode cX11_goesOn 204 = .ok (.putfield 115, 3) := by decide +kernel
theorem dX11_goesOn_207 : decode cX11_goesOn 207 = .ok (.goto (-71), 3) := by decide +kernel
theorem dX11_goesOn_210 : decode cX11_goesOn 210 = .ok (.aload_n 0, 1) := by decide +kernel
theorem dX11_goesOn_211 : decode cX11_goesOn 211 = .ok (.aload_n 0, 1) := by decide +kernel
theorem dX11_goesOn_212 : decode cX11_goesOn 212 = .ok (.getfield 115, 3) := by decide +kernel
theorem dX11_goesOn_215 : decode cX11_goesOn 215 = .ok (.aload_n 0, 1) := by decide +kernel
theorem dX11_goesOn_216 : decode cX11_goesOn 216 = .ok (.getfield 122, 3) := by decide +kernel
theorem dX11_goesOn_219 : decode cX11_goesOn 219 = .ok (.isub, 1) := by decide +kernel
theorem dX11_goesOn_220 : decode cX11_goesOn 220 = .ok (.iconst 3, 1) := by decide +kernel
theorem dX11_goesOn_221 : decode cX11_goesOn 221 = .ok (.if_icmp .le 7, 3) := by decide +kernel
theorem dX11_goesOn_224 : decode cX11_goesOn 224 = .ok (.iconst 1, 1) := by decide +kernel
theorem dX11_goesOn_225 : decode cX11_goesOn 225 = .ok (.goto 4, 3) := by decide +kernel
theorem dX11_goesOn_228 : decode cX11_goesOn 228 = .ok (.iconst 3, 1) := by decide +kernel
theorem dX11_goesOn_229 : decode cX11_goesOn 229 = .ok (.putfield 125, 3) := by decide +kernel
theorem dX11_goesOn_232 : decode cX11_goesOn 232 = .ok (.return_, 1) := by decide +kernel
theorem dX11_goesOn_233 : decode cX11_goesOn 233 = .ok (.aload_n 0, 1) := by decide +kernel
theorem dX11_goesOn_234 : decode cX11_goesOn 234 = .ok (.dup, 1) := by decide +kernel
theorem dX11_goesOn_235 : decode cX11_goesOn 235 = .ok (.getfield 115, 3) := by decide +kernel
theorem dX11_goesOn_238 : decode cX11_goesOn 238 = .ok (.iconst 1, 1) := by decide +kernel
theorem dX11_goesOn_239 : decode cX11_goesOn 239 = .ok (.iadd, 1) := by decide +kernel
theorem dX11_goesOn_240 : decode cX11_goesOn 240 = .ok (.putfield 115, 3) := by decide +kernel
theorem dX11_goesOn_243 : decode cX11_goesOn 243 = .ok (.aload_n 0, 1) := by decide +kernel
theorem dX11_goesOn_244 : decode cX11_goesOn 244 = .ok (.iload_n 1, 1) := by decide +kernel
theorem dX11_goesOn_245 : decode cX11_goesOn 245 = .ok (.bipush 59, 2) := by decide +kernel
theorem dX11_goesOn_247 : decode cX11_goesOn 247 = .ok (.if_icmp .ne 7, 3) := by decide +kernel
theorem dX11_goesOn_250 : decode cX11_goesOn 250 = .ok (.iload_n 1, 1) := by decide +kernel
theorem dX11_goesOn_251 : decode cX11_goesOn 251 = .ok (.goto 4, 3) := by decide +kernel
theorem dX11_goesOn_254 : decode cX11_goesOn 254 = .ok (.iconst 1, 1) := by decide +kernel
theorem dX11_goesOn_255 : decode cX11_goesOn 255 = .ok (.putfield 125, 3) := by decide +kernel
theorem dX11_goesOn_258 : decode cX11_goesOn 258 = .ok (.return_, 1) := by decide +kernel
theorem dX11_isWord_0 : decode cX11_isWord 0 = .ok (.aload_n 0, 1) := by decide +kernel
theorem dX11_isWord_1 : decode cX11_isWord 1 = .ok (.getfield 125, 3) := by decide +kernel
theorem dX11_isWord_4 : decode cX11_isWord 4 = .ok (.iconst 2, 1) := by decide +kernel
theorem dX11_isWord_5 : decode cX11_isWord 5 = .ok (.if_icmp .ne 19, 3) := by decide +kernel
theorem dX11_isWord_8 : decode cX11_isWord 8 = .ok (.aload_n 0, 1) := by decide +kernel
theorem dX11_isWord_9 : decode cX11_isWord 9 = .ok (.getfield 115, 3) := by decide +kernel
theorem dX11_isWord_12 : decode cX11_isWord 12 = .ok (.aload_n 0, 1) := by decide +kernel
theorem dX11_isWord_13 : decode cX11_isWord 13 = .ok (.getfield 122, 3) := by decide +kernel
theorem dX11_isWord_16 : decode cX11_isWord 16 = .ok (.isub, 1) := by decide +kernel
theorem dX11_isWord_17 : decode cX11_isWord 17 = .ok (.aload_n 1, 1) := by decide +kernel
theorem dX11_isWord_18 : decode cX11_isWord 18 = .ok (.invokevirtual 135, 3) := by decide +kernel
theorem dX11_isWord_21 : decode cX11_isWord 21 = .ok (.if_icmp .eq 5, 3) := by decide +kernel
theorem dX11_isWord_24 : decode cX11_isWord 24 = .ok (.iconst 0, 1) := by decide +kernel
theorem dX11_isWord_25 : decode cX11_isWord 25 = .ok (.ireturn, 1) := by decide +kernel
theorem dX11_isWord_26 : decode cX11_isWord 26 = .ok (.iconst 0, 1) := by decide +kernel
theorem dX11_isWord_27 : decode cX11_isWord 27 = .ok (.istore_n 2, 1) := by decide +kernel
theorem dX11_isWord_28 : decode cX11_isWord 28 = .ok (.iload_n 2, 1) := by decide +kernel
theorem dX11_isWord_29 : decode cX11_isWord 29 = .ok (.aload_n 1, 1) := by decide +kernel
theorem dX11_isWord_30 : decode cX11_isWord 30 = .ok (.invokevirtual 135, 3) := by decide +kernel
theorem dX11_isWord_33 : decode cX11_isWord 33 = .ok (.if_icmp .ge 30, 3) := by decide +kernel
theorem dX11_isWord_36 : decode cX11_isWord 36 = .ok (.aload_n 0, 1) := by decide +kernel
theorem dX11_isWord_37 : decode cX11_isWord 37 = .ok (.getfield 13, 3) := by decide +kernel
theorem dX11_isWord_40 : decode cX11_isWord 40 = .ok (.aload_n 0, 1) := by decide +kernel
theorem dX11_isWord_41 : decode cX11_isWord 41 = .ok (.getfield 122, 3) := by decide +kernel
theorem dX11_isWord_44 : decode cX11_isWord 44 = .ok (.iload_n 2, 1) := by decide +kernel
theorem dX11_isWord_45 : decode cX11_isWord 45 = .ok (.iadd, 1) := by decide +kernel
theorem dX11_isWord_46 : decode cX11_isWord 46 = .ok (.iaload, 1) := by decide +kernel
theorem dX11_isWord_47 : decode cX11_isWord 47 = .ok (.aload_n 1, 1) := by decide +kernel
theorem dX11_isWord_48 : decode cX11_isWord 48 = .ok (.iload_n 2, 1) := by decide +kernel
theorem dX11_isWord_49 : decode cX11_isWord 49 = .ok (.invokevirtual 141, 3) := by decide +kernel
theorem dX11_isWord_52 : decode cX11_isWord 52 = .ok (.if_icmp .eq 5, 3) := by decide +kernel
theorem dX11_isWord_55 : decode cX11_isWord 55 = .ok (.iconst 0, 1) := by decide +kernel
theorem dX11_isWord_56 : decode cX11_isWord 56 = .ok (.ireturn, 1) := by decide +kernel
theorem dX11_isWord_57 : decode cX11_isWord 57 = .ok (.iinc 2 1, 3) := by decide +kernel
theorem dX11_isWord_60 : decode cX11_isWord 60 = .ok (.goto (-32), 3) := by decide +kernel
theorem dX11_isWord_63 : decode cX11_isWord 63 = .ok (.iconst 1, 1) := by decide +kernel
theorem dX11_isWord_64 : decode cX11_isWord 64 = .ok (.ireturn, 1) := by decide +kernel
theorem dX11_errs_0 : decode cX11_errs 0 = .ok (.aload_n 0, 1) := by decide +kernel
theorem dX11_errs_1 : decode cX11_errs 1 = .ok (.iload_n 1, 1) := by decide +kernel
theorem dX11_errs_2 : decode cX11_errs 2 = .ok (.putfield 145, 3) := by decide +kernel
theorem dX11_errs_5 : decode cX11_errs 5 = .ok (.aload_n 0, 1) := by decide +kernel
theorem dX11_errs_6 : decode cX11_errs 6 = .ok (.aload_n 0, 1) := by decide +kernel
theorem dX11_errs_7 : decode cX11_errs 7 = .ok (.getfield 122, 3) := by decide +kernel
theorem dX11_errs_10 : decode cX11_errs 10 = .ok (.putfield 148, 3) := by decide +kernel
theorem dX11_errs_13 : decode cX11_errs 13 = .ok (.iconst 0, 1) := by decide +kernel
theorem dX11_errs_14 : decode cX11_errs 14 = .ok (.ireturn, 1) := by decide +kernel
theorem dX11_lays_0 : decode cX11_lays 0 = .ok (.aload_n 0, 1) := by decide +kernel
theorem dX11_lays_1 : decode cX11_lays 1 = .ok (.getfield 125, 3) := by decide +kernel
theorem dX11_lays_4 : decode cX11_lays 4 = .ok (.iconst 3, 1) := by decide +kernel
theorem dX11_lays_5 : decode cX11_lays 5 = .ok (.if_icmp .eq 9, 3) := by decide +kernel
theorem dX11_lays_8 : decode cX11_lays 8 = .ok (.aload_n 0, 1) := by decide +kernel
theorem dX11_lays_9 : decode cX11_lays 9 = .ok (.iconst 1, 1) := by decide +kernel
theorem dX11_lays_10 : decode cX11_lays 10 = .ok (.invokevirtual 151, 3) := by decide +kernel
theorem dX11_lays_13 : decode cX11_lays 13 = .ok (.ireturn, 1) := by decide +kernel
theorem dX11_lays_14 : decode cX11_lays 14 = .ok (.aload_n 0, 1) := by decide +kernel
theorem dX11_lays_15 : decode cX11_lays 15 = .ok (.getfield 132, 3) := by decide +kernel
theorem dX11_lays_18 : decode cX11_lays 18 = .ok (.iload_n 2, 1) := by decide +kernel
theorem dX11_lays_19 : decode cX11_lays 19 = .ok (.iload_n 3, 1) := by decide +kernel
theorem dX11_lays_20 : decode cX11_lays 20 = .ok (.invokestatic 128, 3) := by decide +kernel
theorem dX11_lays_23 : decode cX11_lays 23 = .ok (.ifCond .ne 9, 3) := by decide +kernel
theorem dX11_lays_26 : decode cX11_lays 26 = .ok (.aload_n 0, 1) := by decide +kernel
theorem dX11_lays_27 : decode cX11_lays 27 = .ok (.iconst 2, 1) := by decide +kernel
theorem dX11_lays_28 : decode cX11_lays 28 = .ok (.invokevirtual 151, 3) := by decide +kernel
theorem dX11_lays_31 : decode cX11_lays 31 = .ok (.ireturn, 1) := by decide +kernel
theorem dX11_lays_32 : decode cX11_lays 32 = .ok (.aload_n 0, 1) := by decide +kernel
theorem dX11_lays_33 : decode cX11_lays 33 = .ok (.getfield 20, 3) := by decide +kernel
theorem dX11_lays_36 : decode cX11_lays 36 = .ok (.iload_n 1, 1) := by decide +kernel
theorem dX11_lays_37 : decode cX11_lays 37 = .ok (.aload_n 0, 1) := by decide +kernel
theorem dX11_lays_38 : decode cX11_lays 38 = .ok (.getfield 132, 3) := by decide +kernel
theorem dX11_lays_41 : decode cX11_lays 41 = .ok (.iastore, 1) := by decide +kernel
theorem dX11_lays_42 : decode cX11_lays 42 = .ok (.aload_n 0, 1) := by decide +kernel
theorem dX11_lays_43 : decode cX11_lays 43 = .ok (.invokevirtual 155, 3) := by decide +kernel
theorem dX11_lays_46 : decode cX11_lays 46 = .ok (.iconst 1, 1) := by decide +kernel
theorem dX11_lays_47 : decode cX11_lays 47 = .ok (.ireturn, 1) := by decide +kernel
theorem dX11_after_0 : decode cX11_after 0 = .ok (.aload_n 0, 1) := by decide +kernel
theorem dX11_after_1 : decode cX11_after 1 = .ok (.aload_n 1, 1) := by decide +kernel
theorem dX11_after_2 : decode cX11_after 2 = .ok (.invokevirtual 158, 3) := by decide +kernel
theorem dX11_after_5 : decode cX11_after 5 = .ok (.ifCond .ne 9, 3) := by decide +kernel
theorem dX11_after_8 : decode cX11_after 8 = .ok (.aload_n 0, 1) := by decide +kernel
theorem dX11_after_9 : decode cX11_after 9 = .ok (.iconst 1, 1) := by decide +kernel
theorem dX11_after_10 : decode cX11_after 10 = .ok (.invokevirtual 151, 3) := by decide +kernel
theorem dX11_after_13 : decode cX11_after 13 = .ok (.ireturn, 1) := by decide +kernel
theorem dX11_after_14 : decode cX11_after 14 = .ok (.aload_n 0, 1) := by decide +kernel
theorem dX11_after_15 : decode cX11_after 15 = .ok (.invokevirtual 155, 3) := by decide +kernel
theorem dX11_after_18 : decode cX11_after 18 = .ok (.aload_n 0, 1) := by decide +kernel
theorem dX11_after_19 : decode cX11_after 19 = .ok (.iload_n 2, 1) := by decide +kernel
theorem dX11_after_20 : decode cX11_after 20 = .ok (.iload_n 3, 1) := by decide +kernel
theorem dX11_after_21 : decode cX11_after 21 = .ok (.iload 4, 2) := by decide +kernel
theorem dX11_after_23 : decode cX11_after 23 = .ok (.invokevirtual 162, 3) := by decide +kernel
theorem dX11_after_26 : decode cX11_after 26 = .ok (.ireturn, 1) := by decide +kernel
theorem dX11_readSheet_0 : decode cX11_readSheet 0 = .ok (.aload_n 0, 1) := by decide +kernel
theorem dX11_readSheet_1 : decode cX11_readSheet 1 = .ok (.getfield 165, 3) := by decide +kernel
theorem dX11_readSheet_4 : decode cX11_readSheet 4 = .ok (.ifCond .eq 9, 3) := by decide +kernel
theorem dX11_readSheet_7 : decode cX11_readSheet 7 = .ok (.aload_n 0, 1) := by decide +kernel
theorem dX11_readSheet_8 : decode cX11_readSheet 8 = .ok (.iconst 4, 1) := by decide +kernel
theorem dX11_readSheet_9 : decode cX11_readSheet 9 = .ok (.invokevirtual 151, 3) := by decide +kernel
theorem dX11_readSheet_12 : decode cX11_readSheet 12 = .ok (.ireturn, 1) := by decide +kernel
theorem dX11_readSheet_13 : decode cX11_readSheet 13 = .ok (.aload_n 0, 1) := by decide +kernel
theorem dX11_readSheet_14 : decode cX11_readSheet 14 = .ok (.invokevirtual 155, 3) := by decide +kernel
theorem dX11_readSheet_17 : decode cX11_readSheet 17 = .ok (.aload_n 0, 1) := by decide +kernel
theorem dX11_readSheet_18 : decode cX11_readSheet 18 = .ok (.aload_n 0, 1) := by decide +kernel
theorem dX11_readSheet_19 : decode cX11_readSheet 19 = .ok (.ldc 169, 2) := by decide +kernel
theorem dX11_readSheet_21 : decode cX11_readSheet 21 = .ok (.iconst 0, 1) := by decide +kernel
theorem dX11_readSheet_22 : decode cX11_readSheet 22 = .ok (.iconst 1, 1) := by decide +kernel
theorem dX11_readSheet_23 : decode cX11_readSheet 23 = .ok (.sipush 200, 3) := by decide +kernel
theorem dX11_readSheet_26 : decode cX11_readSheet 26 = .ok (.invokevirtual 171, 3) := by decide +kernel
theorem dX11_readSheet_29 : decode cX11_readSheet 29 = .ok (.ifCond .eq 20, 3) := by decide +kernel
theorem dX11_readSheet_32 : decode cX11_readSheet 32 = .ok (.aload_n 0, 1) := by decide +kernel
theorem dX11_readSheet_33 : decode cX11_readSheet 33 = .ok (.ldc 175, 2) := by decide +kernel
theorem dX11_readSheet_35 : decode cX11_readSheet 35 = .ok (.iconst 1, 1) := by decide +kernel
theorem dX11_readSheet_36 : decode cX11_readSheet 36 = .ok (.iconst 0, 1) := by decide +kernel
theorem dX11_readSheet_37 : decode cX11_readSheet 37 = .ok (.bipush 50, 2) := by decide +kernel
theorem dX11_readSheet_39 : decode cX11_readSheet 39 = .ok (.invokevirtual 171, 3) := by decide +kernel
theorem dX11_readSheet_42 : decode cX11_readSheet 42 = .ok (.ifCond .eq 7, 3) := by decide +kernel
theorem dX11_readSheet_45 : decode cX11_readSheet 45 = .ok (.iconst 1, 1) := by decide +kernel
theorem dX11_readSheet_46 : decode cX11_readSheet 46 = .ok (.goto 4, 3) := by decide +kernel
theorem dX11_readSheet_49 : decode cX11_readSheet 49 = .ok (.iconst 0, 1) := by decide +kernel
theorem dX11_readSheet_50 : decode cX11_readSheet 50 = .ok (.putfield 165, 3) := by decide +kernel
theorem dX11_readSheet_53 : decode cX11_readSheet 53 = .ok (.aload_n 0, 1) := by decide +kernel
theorem dX11_readSheet_54 : decode cX11_readSheet 54 = .ok (.getfield 165, 3) := by decide +kernel
theorem dX11_readSheet_57 : decode cX11_readSheet 57 = .ok (.ireturn, 1) := by decide +kernel
theorem dX11_readStroke_0 : decode cX11_readStroke 0 = .ok (.aload_n 0, 1) := by decide +kernel
theorem dX11_readStroke_1 : decode cX11_readStroke 1 = .ok (.getfield 20, 3) := by decide +kernel
theorem dX11_readStroke_4 : decode cX11_readStroke 4 = .ok (.iconst 2, 1) := by decide +kernel
theorem dX11_readStroke_5 : decode cX11_readStroke 5 = .ok (.iaload, 1) := by decide +kernel
theorem dX11_readStroke_6 : decode cX11_readStroke 6 = .ok (.bipush 24, 2) := by decide +kernel
theorem dX11_readStroke_8 : decode cX11_readStroke 8 = .ok (.if_icmp .ne 9, 3) := by decide +kernel
theorem dX11_readStroke_11 : decode cX11_readStroke 11 = .ok (.aload_n 0, 1) := by decide +kernel
theorem dX11_readStroke_12 : decode cX11_readStroke 12 = .ok (.iconst 5, 1) := by decide +kernel
theorem dX11_readStroke_13 : decode cX11_readStroke 13 = .ok (.invokevirtual 151, 3) := by decide +kernel
theorem dX11_readStroke_16 : decode cX11_readStroke 16 = .ok (.ireturn, 1) := by decide +kernel
theorem dX11_readStroke_17 : decode cX11_readStroke 17 = .ok (.aload_n 0, 1) := by decide +kernel
theorem dX11_readStroke_18 : decode cX11_readStroke 18 = .ok (.getfield 165, 3) := by decide +kernel
theorem dX11_readStroke_21 : decode cX11_readStroke 21 = .ok (.ifCond .ne 10, 3) := by decide +kernel
theorem dX11_readStroke_24 : decode cX11_readStroke 24 = .ok (.aload_n 0, 1) := by decide +kernel
theorem dX11_readStroke_25 : decode cX11_readStroke 25 = .ok (.bipush 6, 2) := by decide +kernel
theorem dX11_readStroke_27 : decode cX11_readStroke 27 = .ok (.invokevirtual 151, 3) := by decide +kernel
theorem dX11_readStroke_30 : decode cX11_readStroke 30 = .ok (.ireturn, 1) := by decide +kernel
theorem dX11_readStroke_31 : decode cX11_readStroke 31 = .ok (.aload_n 0, 1) := by decide +kernel
theorem dX11_readStroke_32 : decode cX11_readStroke 32 = .ok (.invokevirtual 155, 3) := by decide +kernel
theorem dX11_readStroke_35 : decode cX11_readStroke 35 = .ok (.bipush 7, 2) := by decide +kernel
theorem dX11_readStroke_37 : decode cX11_readStroke 37 = .ok (.iconst 4, 1) := by decide +kernel
theorem dX11_readStroke_38 : decode cX11_readStroke 38 = .ok (.aload_n 0, 1) := by decide +kernel
theorem dX11_readStroke_39 : decode cX11_readStroke 39 = .ok (.getfield 20, 3) := by decide +kernel
theorem dX11_readStroke_42 : decode cX11_readStroke 42 = .ok (.iconst 2, 1) := by decide +kernel
theorem dX11_readStroke_43 : decode cX11_readStroke 43 = .ok (.iaload, 1) := by decide +kernel
theorem dX11_readStroke_44 : decode cX11_readStroke 44 = .ok (.imul, 1) := by decide +kernel
theorem dX11_readStroke_45 : decode cX11_readStroke 45 = .ok (.iadd, 1) := by decide +kernel
theorem dX11_readStroke_46 : decode cX11_readStroke 46 = .ok (.istore_n 1, 1) := by decide +kernel
theorem dX11_readStroke_47 : decode cX11_readStroke 47 = .ok (.iconst 0, 1) := by decide +kernel
theorem dX11_readStroke_48 : decode cX11_readStroke 48 = .ok (.istore_n 2, 1) := by decide +kernel
theorem dX11_readStroke_49 : decode cX11_readStroke 49 = .ok (.iload_n 2, 1) := by decide +kernel
theorem dX11_readStroke_50 : decode cX11_readStroke 50 = .ok (.iconst 4, 1) := by decide +kernel
theorem dX11_readStroke_51 : decode cX11_readStroke 51 = .ok (.if_icmp .ge 102, 3) := by decide +kernel
theorem dX11_readStroke_54 : decode cX11_readStroke 54 = .ok (.iload_n 2, 1) := by decide +kernel
theorem dX11_readStroke_55 : decode cX11_readStroke 55 = .ok (.iconst 3, 1) := by decide +kernel
theorem dX11_readStroke_56 : decode cX11_readStroke 56 = .ok (.if_icmp .ne 60, 3) := by decide +kernel
theorem dX11_readStroke_59 : decode cX11_readStroke 59 = .ok (.aload_n 0, 1) := by decide +kernel
theorem dX11_readStroke_60 : decode cX11_readStroke 60 = .ok (.getfield 125, 3) := by decide +kernel
theorem dX11_readStroke_63 : decode cX11_readStroke 63 = .ok (.iconst 3, 1) := by decide +kernel
theorem dX11_readStroke_64 : decode cX11_readStroke 64 = .ok (.if_icmp .ne 52, 3) := by decide +kernel
theorem dX11_readStroke_67 : decode cX11_readStroke 67 = .ok (.aload_n 0, 1) := by decide +kernel
theorem dX11_readStroke_68 : decode cX11_readStroke 68 = .ok (.getfield 20, 3) := by decide +kernel
theorem dX11_readStroke_71 : decode cX11_readStroke 71 = .ok (.iload_n 1, 1) := by decide +kernel
theorem dX11_readStroke_72 : decode cX11_readStroke 72 = .ok (.iaload, 1) := by decide +kernel
theorem dX11_readStroke_73 : decode cX11_readStroke 73 = .ok (.aload_n 0, 1) := by decide +kernel
theorem dX11_readStroke_74 : decode cX11_readStroke 74 = .ok (.getfield 20, 3) := by decide +kernel
theorem dX11_readStroke_77 : decode cX11_readStroke 77 = .ok (.iload_n 1, 1) := by decide +kernel
theorem dX11_readStroke_78 : decode cX11_readStroke 78 = .ok (.iconst 2, 1) := by decide +kernel
theorem dX11_readStroke_79 : decode cX11_readStroke 79 = .ok (.iadd, 1) := by decide +kernel
theorem dX11_readStroke_80 : decode cX11_readStroke 80 = .ok (.iaload, 1) := by decide +kernel
theorem dX11_readStroke_81 : decode cX11_readStroke 81 = .ok (.if_icmp .ne 35, 3) := by decide +kernel
theorem dX11_readStroke_84 : decode cX11_readStroke 84 = .ok (.aload_n 0, 1) := by decide +kernel
theorem dX11_readStroke_85 : decode cX11_readStroke 85 = .ok (.getfield 20, 3) := by decide +kernel
theorem dX11_readStroke_88 : decode cX11_readStroke 88 = .ok (.iload_n 1, 1) := by decide +kernel
theorem dX11_readStroke_89 : decode cX11_readStroke 89 = .ok (.iconst 1, 1) := by decide +kernel
theorem dX11_readStroke_90 : decode cX11_readStroke 90 = .ok (.iadd, 1) := by decide +kernel
theorem dX11_readStroke_91 : decode cX11_readStroke 91 = .ok (.iaload, 1) := by decide +kernel
theorem dX11_readStroke_92 : decode cX11_readStroke 92 = .ok (.aload_n 0, 1) := by decide +kernel
theorem dX11_readStroke_93 : decode cX11_readStroke 93 = .ok (.getfield 132, 3) := by decide +kernel
theorem dX11_readStroke_96 : decode cX11_readStroke 96 = .ok (.if_icmp .ne 20, 3) := by decide +kernel
theorem dX11_readStroke_99 : decode cX11_readStroke 99 = .ok (.aload_n 0, 1) := by decide +kernel
theorem dX11_readStroke_100 : decode cX11_readStroke 100 = .ok (.getfield 132, 3) := by decide +kernel
theorem dX11_readStroke_103 : decode cX11_readStroke 103 = .ok (.aload_n 0, 1) := by decide +kernel
theorem dX11_readStroke_104 : decode cX11_readStroke 104 = .ok (.getfield 20, 3) := by decide +kernel
theorem dX11_readStroke_107 : decode cX11_readStroke 107 = .ok (.iconst 0, 1) := by decide +kernel
theorem dX11_readStroke_108 : decode cX11_readStroke 108 = .ok (.iaload, 1) := by decide +kernel
theorem dX11_readStroke_109 : decode cX11_readStroke 109 = .ok (.if_icmp .gt 7, 3) := by decide +kernel
theorem dX11_readStroke_112 : decode cX11_readStroke 112 = .ok (.iconst 1, 1) := by decide +kernel
theorem dX11_readStroke_113 : decode cX11_readStroke 113 = .ok (.goto 4, 3) := by decide +kernel
theorem dX11_readStroke_116 : decode cX11_readStroke 116 = .ok (.iconst 0, 1) := by decide +kernel
theorem dX11_readStroke_117 : decode cX11_readStroke 117 = .ok (.istore_n 3, 1) := by decide +kernel
theorem dX11_readStroke_118 : decode cX11_readStroke 118 = .ok (.iload_n 3, 1) := by decide +kernel
theorem dX11_readStroke_119 : decode cX11_readStroke 119 = .ok (.ifCond .eq 9, 3) := by decide +kernel
theorem dX11_readStroke_122 : decode cX11_readStroke 122 = .ok (.aload_n 0, 1) := by decide +kernel
theorem dX11_readStroke_123 : decode cX11_readStroke 123 = .ok (.iconst 3, 1) := by decide +kernel
theorem dX11_readStroke_124 : decode cX11_readStroke 124 = .ok (.invokevirtual 151, 3) := by decide +kernel
theorem dX11_readStroke_127 : decode cX11_readStroke 127 = .ok (.ireturn, 1) := by decide +kernel
theorem dX11_readStroke_128 : decode cX11_readStroke 128 = .ok (.aload_n 0, 1) := by decide +kernel
theorem dX11_readStroke_129 : decode cX11_readStroke 129 = .ok (.iload_n 1, 1) := by decide +kernel
theorem dX11_readStroke_130 : decode cX11_readStroke 130 = .ok (.iload_n 2, 1) := by decide +kernel
theorem dX11_readStroke_131 : decode cX11_readStroke 131 = .ok (.iadd, 1) := by decide +kernel
theorem dX11_readStroke_132 : decode cX11_readStroke 132 = .ok (.iconst 0, 1) := by decide +kernel
theorem dX11_readStroke_133 : decode cX11_readStroke 133 = .ok (.aload_n 0, 1) := by decide +kernel
theorem dX11_readStroke_134 : decode cX11_readStroke 134 = .ok (.getfield 20, 3) := by decide +kernel
theorem dX11_readStroke_137 : decode cX11_readStroke 137 = .ok (.iconst 0, 1) := by decide +kernel
theorem dX11_readStroke_138 : decode cX11_readStroke 138 = .ok (.iaload, 1) := by decide +kernel
theorem dX11_readStroke_139 : decode cX11_readStroke 139 = .ok (.invokevirtual 162, 3) := by decide +kernel
theorem dX11_readStroke_142 : decode cX11_readStroke 142 = .ok (.ifCond .ne 5, 3) := by decide +kernel
theorem dX11_readStroke_145 : decode cX11_readStroke 145 = .ok (.iconst 0, 1) := by decide +kernel
theorem dX11_readStroke_146 : decode cX11_readStroke 146 = .ok (.ireturn, 1) := by decide +kernel
theorem dX11_readStroke_147 : decode cX11_readStroke 147 = .ok (.iinc 2 1, 3) := by decide +kernel
theorem dX11_readStroke_150 : decode cX11_readStroke 150 = .ok (.goto (-101), 3) := by decide +kernel
theorem dX11_readStroke_153 : decode cX11_readStroke 153 = .ok (.aload_n 0, 1) := by decide +kernel
theorem dX11_readStroke_154 : decode cX11_readStroke 154 = .ok (.getfield 20, 3) := by decide +kernel
theorem dX11_readStroke_157 : decode cX11_readStroke 157 = .ok (.iconst 2, 1) := by decide +kernel
theorem dX11_readStroke_158 : decode cX11_readStroke 158 = .ok (.dup2, 1) := by decide +kernel
theorem dX11_readStroke_159 : decode cX11_readStroke 159 = .ok (.iaload, 1) := by decide +kernel
theorem dX11_readStroke_160 : decode cX11_readStroke 160 = .ok (.iconst 1, 1) := by decide +kernel
theorem dX11_readStroke_161 : decode cX11_readStroke 161 = .ok (.iadd, 1) := by decide +kernel
theorem dX11_readStroke_162 : decode cX11_readStroke 162 = .ok (.iastore, 1) := by decide +kernel
theorem dX11_readStroke_163 : decode cX11_readStroke 163 = .ok (.iconst 1, 1) := by decide +kernel
theorem dX11_readStroke_164 : decode cX11_readStroke 164 = .ok (.ireturn, 1) := by decide +kernel
theorem dX11_readHome_0 : decode cX11_readHome 0 = .ok (.aload_n 0, 1) := by decide +kernel
theorem dX11_readHome_1 : decode cX11_readHome 1 = .ok (.getfield 177, 3) := by decide +kernel
theorem dX11_readHome_4 : decode cX11_readHome 4 = .ok (.ifCond .eq 9, 3) := by decide +kernel
theorem dX11_readHome_7 : decode cX11_readHome 7 = .ok (.aload_n 0, 1) := by decide +kernel
theorem dX11_readHome_8 : decode cX11_readHome 8 = .ok (.iconst 4, 1) := by decide +kernel
theorem dX11_readHome_9 : decode cX11_readHome 9 = .ok (.invokevirtual 151, 3) := by decide +kernel
theorem dX11_readHome_12 : decode cX11_readHome 12 = .ok (.ireturn, 1) := by decide +kernel
theorem dX11_readHome_13 : decode cX11_readHome 13 = .ok (.aload_n 0, 1) := by decide +kernel
theorem dX11_readHome_14 : decode cX11_readHome 14 = .ok (.getfield 165, 3) := by decide +kernel
theorem dX11_readHome_17 : decode cX11_readHome 17 = .ok (.ifCond .ne 10, 3) := by decide +kernel
theorem dX11_readHome_20 : decode cX11_readHome 20 = .ok (.aload_n 0, 1) := by decide +kernel
theorem dX11_readHome_21 : decode cX11_readHome 21 = .ok (.bipush 6, 2) := by decide +kernel
theorem dX11_readHome_23 : decode cX11_readHome 23 = .ok (.invokevirtual 151, 3) := by decide +kernel
theorem dX11_readHome_26 : decode cX11_readHome 26 = .ok (.ireturn, 1) := by decide +kernel
theorem dX11_readHome_27 : decode cX11_readHome 27 = .ok (.aload_n 0, 1) := by decide +kernel
theorem dX11_readHome_28 : decode cX11_readHome 28 = .ok (.invokevirtual 155, 3) := by decide +kernel
theorem dX11_readHome_31 : decode cX11_readHome 31 = .ok (.aload_n 0, 1) := by decide +kernel
theorem dX11_readHome_32 : decode cX11_readHome 32 = .ok (.iconst 1, 1) := by decide +kernel
theorem dX11_readHome_33 : decode cX11_readHome 33 = .ok (.putfield 177, 3) := by decide +kernel
theorem dX11_readHome_36 : decode cX11_readHome 36 = .ok (.aload_n 0, 1) := by decide +kernel
theorem dX11_readHome_37 : decode cX11_readHome 37 = .ok (.iconst 3, 1) := by decide +kernel
theorem dX11_readHome_38 : decode cX11_readHome 38 = .ok (.iconst 0, 1) := by decide +kernel
theorem dX11_readHome_39 : decode cX11_readHome 39 = .ok (.aload_n 0, 1) := by decide +kernel
theorem dX11_readHome_40 : decode cX11_readHome 40 = .ok (.getfield 20, 3) := by decide +kernel
theorem dX11_readHome_43 : decode cX11_readHome 43 = .ok (.iconst 0, 1) := by decide +kernel
theorem dX11_readHome_44 : decode cX11_readHome 44 = .ok (.iaload, 1) := by decide +kernel
theorem dX11_readHome_45 : decode cX11_readHome 45 = .ok (.invokevirtual 162, 3) := by decide +kernel
theorem dX11_readHome_48 : decode cX11_readHome 48 = .ok (.ifCond .eq 22, 3) := by decide +kernel
theorem dX11_readHome_51 : decode cX11_readHome 51 = .ok (.aload_n 0, 1) := by decide +kernel
theorem dX11_readHome_52 : decode cX11_readHome 52 = .ok (.iconst 4, 1) := by decide +kernel
theorem dX11_readHome_53 : decode cX11_readHome 53 = .ok (.iconst 0, 1) := by decide +kernel
theorem dX11_readHome_54 : decode cX11_readHome 54 = .ok (.aload_n 0, 1) := by decide +kernel
theorem dX11_readHome_55 : decode cX11_readHome 55 = .ok (.getfield 20, 3) := by decide +kernel
theorem dX11_readHome_58 : decode cX11_readHome 58 = .ok (.iconst 0, 1) := by decide +kernel
theorem dX11_readHome_59 : decode cX11_readHome 59 = .ok (.iaload, 1) := by decide +kernel
theorem dX11_readHome_60 : decode cX11_readHome 60 = .ok (.invokevirtual 162, 3) := by decide +kernel
theorem dX11_readHome_63 : decode cX11_readHome 63 = .ok (.ifCond .eq 7, 3) := by decide +kernel
theorem dX11_readHome_66 : decode cX11_readHome 66 = .ok (.iconst 1, 1) := by decide +kernel
theorem dX11_readHome_67 : decode cX11_readHome 67 = .ok (.goto 4, 3) := by decide +kernel
theorem dX11_readHome_70 : decode cX11_readHome 70 = .ok (.iconst 0, 1) := by decide +kernel
theorem dX11_readHome_71 : decode cX11_readHome 71 = .ok (.ireturn, 1) := by decide +kernel
theorem dX11_readPace_0 : decode cX11_readPace 0 = .ok (.aload_n 0, 1) := by decide +kernel
theorem dX11_readPace_1 : decode cX11_readPace 1 = .ok (.getfield 180, 3) := by decide +kernel
theorem dX11_readPace_4 : decode cX11_readPace 4 = .ok (.ifCond .eq 9, 3) := by decide +kernel
theorem dX11_readPace_7 : decode cX11_readPace 7 = .ok (.aload_n 0, 1) := by decide +kernel
theorem dX11_readPace_8 : decode cX11_readPace 8 = .ok (.iconst 4, 1) := by decide +kernel
theorem dX11_readPace_9 : decode cX11_readPace 9 = .ok (.invokevirtual 151, 3) := by decide +kernel
theorem dX11_readPace_12 : decode cX11_readPace 12 = .ok (.ireturn, 1) := by decide +kernel
theorem dX11_readPace_13 : decode cX11_readPace 13 = .ok (.aload_n 0, 1) := by decide +kernel
theorem dX11_readPace_14 : decode cX11_readPace 14 = .ok (.getfield 165, 3) := by decide +kernel
theorem dX11_readPace_17 : decode cX11_readPace 17 = .ok (.ifCond .ne 10, 3) := by decide +kernel
theorem dX11_readPace_20 : decode cX11_readPace 20 = .ok (.aload_n 0, 1) := by decide +kernel
theorem dX11_readPace_21 : decode cX11_readPace 21 = .ok (.bipush 6, 2) := by decide +kernel
theorem dX11_readPace_23 : decode cX11_readPace 23 = .ok (.invokevirtual 151, 3) := by decide +kernel
theorem dX11_readPace_26 : decode cX11_readPace 26 = .ok (.ireturn, 1) := by decide +kernel
theorem dX11_readPace_27 : decode cX11_readPace 27 = .ok (.aload_n 0, 1) := by decide +kernel
theorem dX11_readPace_28 : decode cX11_readPace 28 = .ok (.invokevirtual 155, 3) := by decide +kernel
theorem dX11_readPace_31 : decode cX11_readPace 31 = .ok (.aload_n 0, 1) := by decide +kernel
theorem dX11_readPace_32 : decode cX11_readPace 32 = .ok (.iconst 1, 1) := by decide +kernel
theorem dX11_readPace_33 : decode cX11_readPace 33 = .ok (.putfield 180, 3) := by decide +kernel
theorem dX11_readPace_36 : decode cX11_readPace 36 = .ok (.aload_n 0, 1) := by decide +kernel
theorem dX11_readPace_37 : decode cX11_readPace 37 = .ok (.iconst 5, 1) := by decide +kernel
theorem dX11_readPace_38 : decode cX11_readPace 38 = .ok (.iconst 1, 1) := by decide +kernel
theorem dX11_readPace_39 : decode cX11_readPace 39 = .ok (.bipush 9, 2) := by decide +kernel
theorem dX11_readPace_41 : decode cX11_readPace 41 = .ok (.invokevirtual 162, 3) := by decide +kernel
theorem dX11_readPace_44 : decode cX11_readPace 44 = .ok (.ifCond .eq 19, 3) := by decide +kernel
theorem dX11_readPace_47 : decode cX11_readPace 47 = .ok (.aload_n 0, 1) := by decide +kernel
theorem dX11_readPace_48 : decode cX11_readPace 48 = .ok (.bipush 6, 2) := by decide +kernel
theorem dX11_readPace_50 : decode cX11_readPace 50 = .ok (.iconst 1, 1) := by decide +kernel
theorem dX11_readPace_51 : decode cX11_readPace 51 = .ok (.bipush 9, 2) := by decide +kernel
theorem dX11_readPace_53 : decode cX11_readPace 53 = .ok (.invokevirtual 162, 3) := by decide +kernel
theorem dX11_readPace_56 : decode cX11_readPace 56 = .ok (.ifCond .eq 7, 3) := by decide +kernel
theorem dX11_readPace_59 : decode cX11_readPace 59 = .ok (.iconst 1, 1) := by decide +kernel
theorem dX11_readPace_60 : decode cX11_readPace 60 = .ok (.goto 4, 3) := by decide +kernel
theorem dX11_readPace_63 : decode cX11_readPace 63 = .ok (.iconst 0, 1) := by decide +kernel
theorem dX11_readPace_64 : decode cX11_readPace 64 = .ok (.ireturn, 1) := by decide +kernel
theorem dX11_readLine_0 : decode cX11_readLine 0 = .ok (.aload_n 0, 1) := by decide +kernel
theorem dX11_readLine_1 : decode cX11_readLine 1 = .ok (.ldc 183, 2) := by decide +kernel
theorem dX11_readLine_3 : decode cX11_readLine 3 = .ok (.invokevirtual 158, 3) := by decide +kernel
theorem dX11_readLine_6 : decode cX11_readLine 6 = .ok (.ifCond .eq 8, 3) := by decide +kernel
theorem dX11_readLine_9 : decode cX11_readLine 9 = .ok (.aload_n 0, 1) := by decide +kernel
theorem dX11_readLine_10 : decode cX11_readLine 10 = .ok (.invokevirtual 185, 3) := by decide +kernel
theorem dX11_readLine_13 : decode cX11_readLine 13 = .ok (.ireturn, 1) := by decide +kernel
theorem dX11_readLine_14 : decode cX11_readLine 14 = .ok (.aload_n 0, 1) := by decide +kernel
theorem dX11_readLine_15 : decode cX11_readLine 15 = .ok (.ldc 189, 2) := by decide +kernel
theorem dX11_readLine_17 : decode cX11_readLine 17 = .ok (.invokevirtual 158, 3) := by decide +kernel
theorem dX11_readLine_20 : decode cX11_readLine 20 = .ok (.ifCond .eq 8, 3) := by decide +kernel
theorem dX11_readLine_23 : decode cX11_readLine 23 = .ok (.aload_n 0, 1) := by decide +kernel
theorem dX11_readLine_24 : decode cX11_readLine 24 = .ok (.invokevirtual 191, 3) := by decide +kernel
theorem dX11_readLine_27 : decode cX11_readLine 27 = .ok (.ireturn, 1) := by decide +kernel
theorem dX11_readLine_28 : decode cX11_readLine 28 = .ok (.aload_n 0, 1) := by decide +kernel
theorem dX11_readLine_29 : decode cX11_readLine 29 = .ok (.ldc 194, 2) := by decide +kernel
theorem dX11_readLine_31 : decode cX11_readLine 31 = .ok (.invokevirtual 158, 3) := by decide +kernel
theorem dX11_readLine_34 : decode cX11_readLine 34 = .ok (.ifCond .eq 8, 3) := by decide +kernel
theorem dX11_readLine_37 : decode cX11_readLine 37 = .ok (.aload_n 0, 1) := by decide +kernel
theorem dX11_readLine_38 : decode cX11_readLine 38 = .ok (.invokevirtual 196, 3) := by decide +kernel
theorem dX11_readLine_41 : decode cX11_readLine 41 = .ok (.ireturn, 1) := by decide +kernel
theorem dX11_readLine_42 : decode cX11_readLine 42 = .ok (.aload_n 0, 1) := by decide +kernel
theorem dX11_readLine_43 : decode cX11_readLine 43 = .ok (.ldc 199, 2) := by decide +kernel
theorem dX11_readLine_45 : decode cX11_readLine 45 = .ok (.invokevirtual 158, 3) := by decide +kernel
theorem dX11_readLine_48 : decode cX11_readLine 48 = .ok (.ifCond .eq 10, 3) := by decide +kernel
theorem dX11_readLine_51 : decode cX11_readLine 51 = .ok (.aload_n 0, 1) := by decide +kernel
theorem dX11_readLine_52 : decode cX11_readLine 52 = .ok (.invokevirtual 201, 3) := by decide +kernel
theorem dX11_readLine_55 : decode cX11_readLine 55 = .ok (.goto 8, 3) := by decide +kernel
theorem dX11_readLine_58 : decode cX11_readLine 58 = .ok (.aload_n 0, 1) := by decide +kernel
theorem dX11_readLine_59 : decode cX11_readLine 59 = .ok (.iconst 1, 1) := by decide +kernel
theorem dX11_readLine_60 : decode cX11_readLine 60 = .ok (.invokevirtual 151, 3) := by decide +kernel
theorem dX11_readLine_63 : decode cX11_readLine 63 = .ok (.ireturn, 1) := by decide +kernel
theorem dX11_readAll_0 : decode cX11_readAll 0 = .ok (.aload_n 0, 1) := by decide +kernel
theorem dX11_readAll_1 : decode cX11_readAll 1 = .ok (.iload_n 1, 1) := by decide +kernel
theorem dX11_readAll_2 : decode cX11_readAll 2 = .ok (.putfield 112, 3) := by decide +kernel
theorem dX11_readAll_5 : decode cX11_readAll 5 = .ok (.aload_n 0, 1) := by decide +kernel
theorem dX11_readAll_6 : decode cX11_readAll 6 = .ok (.iconst 0, 1) := by decide +kernel
theorem dX11_readAll_7 : decode cX11_readAll 7 = .ok (.putfield 115, 3) := by decide +kernel
theorem dX11_readAll_10 : decode cX11_readAll 10 = .ok (.aload_n 0, 1) := by decide +kernel
theorem dX11_readAll_11 : decode cX11_readAll 11 = .ok (.iconst 0, 1) := by decide +kernel
theorem dX11_readAll_12 : decode cX11_readAll 12 = .ok (.putfield 165, 3) := by decide +kernel
theorem dX11_readAll_15 : decode cX11_readAll 15 = .ok (.aload_n 0, 1) := by decide +kernel
theorem dX11_readAll_16 : decode cX11_readAll 16 = .ok (.iconst 0, 1) := by decide +kernel
theorem dX11_readAll_17 : decode cX11_readAll 17 = .ok (.putfield 177, 3) := by decide +kernel
theorem dX11_readAll_20 : decode cX11_readAll 20 = .ok (.aload_n 0, 1) := by decide +kernel
theorem dX11_readAll_21 : decode cX11_readAll 21 = .ok (.iconst 0, 1) := by decide +kernel
theorem dX11_readAll_22 : decode cX11_readAll 22 = .ok (.putfield 180, 3) := by decide +kernel
theorem dX11_readAll_25 : decode cX11_readAll 25 = .ok (.aload_n 0, 1) := by decide +kernel
theorem dX11_readAll_26 : decode cX11_readAll 26 = .ok (.getfield 20, 3) := by decide +kernel
theorem dX11_readAll_29 : decode cX11_readAll 29 = .ok (.iconst 2, 1) := by decide +kernel
theorem dX11_readAll_30 : decode cX11_readAll 30 = .ok (.iconst 0, 1) := by decide +kernel
theorem dX11_readAll_31 : decode cX11_readAll 31 = .ok (.iastore, 1) := by decide +kernel
theorem dX11_readAll_32 : decode cX11_readAll 32 = .ok (.aload_n 0, 1) := by decide +kernel
theorem dX11_readAll_33 : decode cX11_readAll 33 = .ok (.getfield 20, 3) := by decide +kernel
theorem dX11_readAll_36 : decode cX11_readAll 36 = .ok (.iconst 3, 1) := by decide +kernel
theorem dX11_readAll_37 : decode cX11_readAll 37 = .ok (.iconst 0, 1) := by decide +kernel
theorem dX11_readAll_38 : decode cX11_readAll 38 = .ok (.iastore, 1) := by decide +kernel
theorem dX11_readAll_39 : decode cX11_readAll 39 = .ok (.aload_n 0, 1) := by decide +kernel
theorem dX11_readAll_40 : decode cX11_readAll 40 = .ok (.getfield 20, 3) := by decide +kernel
theorem dX11_readAll_43 : decode cX11_readAll 43 = .ok (.iconst 4, 1) := by decide +kernel
theorem dX11_readAll_44 : decode cX11_readAll 44 = .ok (.iconst 0, 1) := by decide +kernel
theorem dX11_readAll_45 : decode cX11_readAll 45 = .ok (.iastore, 1) := by decide +kernel
theorem dX11_readAll_46 : decode cX11_readAll 46 = .ok (.aload_n 0, 1) := by decide +kernel
theorem dX11_readAll_47 : decode cX11_readAll 47 = .ok (.getfield 20, 3) := by decide +kernel
theorem dX11_readAll_50 : decode cX11_readAll 50 = .ok (.iconst 5, 1) := by decide +kernel
theorem dX11_readAll_51 : decode cX11_readAll 51 = .ok (.iconst 1, 1) := by decide +kernel
theorem dX11_readAll_52 : decode cX11_readAll 52 = .ok (.iastore, 1) := by decide +kernel
theorem dX11_readAll_53 : decode cX11_readAll 53 = .ok (.aload_n 0, 1) := by decide +kernel
theorem dX11_readAll_54 : decode cX11_readAll 54 = .ok (.getfield 20, 3) := by decide +kernel
theorem dX11_readAll_57 : decode cX11_readAll 57 = .ok (.bipush 6, 2) := by decide +kernel
theorem dX11_readAll_59 : decode cX11_readAll 59 = .ok (.iconst 1, 1) := by decide +kernel
theorem dX11_readAll_60 : decode cX11_readAll 60 = .ok (.iastore, 1) := by decide +kernel
theorem dX11_readAll_61 : decode cX11_readAll 61 = .ok (.aload_n 0, 1) := by decide +kernel
theorem dX11_readAll_62 : decode cX11_readAll 62 = .ok (.invokevirtual 155, 3) := by decide +kernel
theorem dX11_readAll_65 : decode cX11_readAll 65 = .ok (.aload_n 0, 1) := by decide +kernel
theorem dX11_readAll_66 : decode cX11_readAll 66 = .ok (.invokevirtual 204, 3) := by decide +kernel
theorem dX11_readAll_69 : decode cX11_readAll 69 = .ok (.ifCond .ne 5, 3) := by decide +kernel
theorem dX11_readAll_72 : decode cX11_readAll 72 = .ok (.iconst 0, 1) := by decide +kernel
theorem dX11_readAll_73 : decode cX11_readAll 73 = .ok (.ireturn, 1) := by decide +kernel
theorem dX11_readAll_74 : decode cX11_readAll 74 = .ok (.aload_n 0, 1) := by decide +kernel
theorem dX11_readAll_75 : decode cX11_readAll 75 = .ok (.getfield 125, 3) := by decide +kernel
theorem dX11_readAll_78 : decode cX11_readAll 78 = .ok (.bipush 59, 2) := by decide +kernel
theorem dX11_readAll_80 : decode cX11_readAll 80 = .ok (.if_icmp .ne 16, 3) := by decide +kernel
theorem dX11_readAll_83 : decode cX11_readAll 83 = .ok (.aload_n 0, 1) := by decide +kernel
theorem dX11_readAll_84 : decode cX11_readAll 84 = .ok (.invokevirtual 155, 3) := by decide +kernel
theorem dX11_readAll_87 : decode cX11_readAll 87 = .ok (.aload_n 0, 1) := by decide +kernel
theorem dX11_readAll_88 : decode cX11_readAll 88 = .ok (.invokevirtual 204, 3) := by decide +kernel
theorem dX11_readAll_91 : decode cX11_readAll 91 = .ok (.ifCond .ne (-17), 3) := by decide +kernel
theorem dX11_readAll_94 : decode cX11_readAll 94 = .ok (.iconst 0, 1) := by decide +kernel
theorem dX11_readAll_95 : decode cX11_readAll 95 = .ok (.ireturn, 1) := by decide +kernel
theorem dX11_readAll_96 : decode cX11_readAll 96 = .ok (.aload_n 0, 1) := by decide +kernel
theorem dX11_readAll_97 : decode cX11_readAll 97 = .ok (.getfield 125, 3) := by decide +kernel
theorem dX11_readAll_100 : decode cX11_readAll 100 = .ok (.ifCond .eq 9, 3) := by decide +kernel
theorem dX11_readAll_103 : decode cX11_readAll 103 = .ok (.aload_n 0, 1) := by decide +kernel
theorem dX11_readAll_104 : decode cX11_readAll 104 = .ok (.iconst 1, 1) := by decide +kernel
theorem dX11_readAll_105 : decode cX11_readAll 105 = .ok (.invokevirtual 151, 3) := by decide +kernel
theorem dX11_readAll_108 : decode cX11_readAll 108 = .ok (.ireturn, 1) := by decide +kernel
theorem dX11_readAll_109 : decode cX11_readAll 109 = .ok (.aload_n 0, 1) := by decide +kernel
theorem dX11_readAll_110 : decode cX11_readAll 110 = .ok (.getfield 165, 3) := by decide +kernel
theorem dX11_readAll_113 : decode cX11_readAll 113 = .ok (.ifCond .ne 12, 3) := by decide +kernel
theorem dX11_readAll_116 : decode cX11_readAll 116 = .ok (.aload_n 0, 1) := by decide +kernel
theorem dX11_readAll_117 : decode cX11_readAll 117 = .ok (.bipush 6, 2) := by decide +kernel
theorem dX11_readAll_119 : decode cX11_readAll 119 = .ok (.invokevirtual 151, 3) := by decide +kernel
theorem dX11_readAll_122 : decode cX11_readAll 122 = .ok (.ifCond .eq 7, 3) := by decide +kernel
theorem dX11_readAll_125 : decode cX11_readAll 125 = .ok (.iconst 1, 1) := by decide +kernel
theorem dX11_readAll_126 : decode cX11_readAll 126 = .ok (.goto 4, 3) := by decide +kernel
theorem dX11_readAll_129 : decode cX11_readAll 129 = .ok (.iconst 0, 1) := by decide +kernel
theorem dX11_readAll_130 : decode cX11_readAll 130 = .ok (.ireturn, 1) := by decide +kernel
theorem dX11_sheet_0 : decode cX11_sheet 0 = .ok (.aload_n 0, 1) := by decide +kernel
theorem dX11_sheet_1 : decode cX11_sheet 1 = .ok (.iload_n 1, 1) := by decide +kernel
theorem dX11_sheet_2 : decode cX11_sheet 2 = .ok (.iconst 0, 1) := by decide +kernel
theorem dX11_sheet_3 : decode cX11_sheet 3 = .ok (.aload_n 0, 1) := by decide +kernel
theorem dX11_sheet_4 : decode cX11_sheet 4 = .ok (.getfield 105, 3) := by decide +kernel
theorem dX11_sheet_7 : decode cX11_sheet 7 = .ok (.invokestatic 128, 3) := by decide +kernel
theorem dX11_sheet_10 : decode cX11_sheet 10 = .ok (.ifCond .eq 7, 3) := by decide +kernel
theorem dX11_sheet_13 : decode cX11_sheet 13 = .ok (.iconst 0, 1) := by decide +kernel
theorem dX11_sheet_14 : decode cX11_sheet 14 = .ok (.goto 4, 3) := by decide +kernel
theorem dX11_sheet_17 : decode cX11_sheet 17 = .ok (.iconst 2, 1) := by decide +kernel
theorem dX11_sheet_18 : decode cX11_sheet 18 = .ok (.invokevirtual 207, 3) := by decide +kernel
theorem dX11_sheet_21 : decode cX11_sheet 21 = .ok (.ifCond .eq 5, 3) := by decide +kernel
theorem dX11_sheet_24 : decode cX11_sheet 24 = .ok (.iconst (-1), 1) := by decide +kernel
theorem dX11_sheet_25 : decode cX11_sheet 25 = .ok (.ireturn, 1) := by decide +kernel
theorem dX11_sheet_26 : decode cX11_sheet 26 = .ok (.aload_n 0, 1) := by decide +kernel
theorem dX11_sheet_27 : decode cX11_sheet 27 = .ok (.iconst 0, 1) := by decide +kernel
theorem dX11_sheet_28 : decode cX11_sheet 28 = .ok (.putfield 105, 3) := by decide +kernel
theorem dX11_sheet_31 : decode cX11_sheet 31 = .ok (.aload_n 0, 1) := by decide +kernel
theorem dX11_sheet_32 : decode cX11_sheet 32 = .ok (.iconst 0, 1) := by decide +kernel
theorem dX11_sheet_33 : decode cX11_sheet 33 = .ok (.putfield 210, 3) := by decide +kernel
theorem dX11_sheet_36 : decode cX11_sheet 36 = .ok (.aload_n 0, 1) := by decide +kernel
theorem dX11_sheet_37 : decode cX11_sheet 37 = .ok (.iload_n 1, 1) := by decide +kernel
theorem dX11_sheet_38 : decode cX11_sheet 38 = .ok (.invokevirtual 213, 3) := by decide +kernel
theorem dX11_sheet_41 : decode cX11_sheet 41 = .ok (.ifCond .ne 25, 3) := by decide +kernel
theorem dX11_sheet_44 : decode cX11_sheet 44 = .ok (.aload_n 0, 1) := by decide +kernel
theorem dX11_sheet_45 : decode cX11_sheet 45 = .ok (.aload_n 0, 1) := by decide +kernel
theorem dX11_sheet_46 : decode cX11_sheet 46 = .ok (.getfield 145, 3) := by decide +kernel
theorem dX11_sheet_49 : decode cX11_sheet 49 = .ok (.putfield 210, 3) := by decide +kernel
theorem dX11_sheet_52 : decode cX11_sheet 52 = .ok (.aload_n 0, 1) := by decide +kernel
theorem dX11_sheet_53 : decode cX11_sheet 53 = .ok (.aload_n 0, 1) := by decide +kernel
theorem dX11_sheet_54 : decode cX11_sheet 54 = .ok (.getfield 148, 3) := by decide +kernel
theorem dX11_sheet_57 : decode cX11_sheet 57 = .ok (.putfield 9, 3) := by decide +kernel
theorem dX11_sheet_60 : decode cX11_sheet 60 = .ok (.aload_n 0, 1) := by decide +kernel
theorem dX11_sheet_61 : decode cX11_sheet 61 = .ok (.iconst 4, 1) := by decide +kernel
theorem dX11_sheet_62 : decode cX11_sheet 62 = .ok (.invokevirtual 216, 3) := by decide +kernel
theorem dX11_sheet_65 : decode cX11_sheet 65 = .ok (.ireturn, 1) := by decide +kernel
theorem dX11_sheet_66 : decode cX11_sheet 66 = .ok (.aload_n 0, 1) := by decide +kernel
theorem dX11_sheet_67 : decode cX11_sheet 67 = .ok (.getfield 20, 3) := by decide +kernel
theorem dX11_sheet_70 : decode cX11_sheet 70 = .ok (.iconst 0, 1) := by decide +kernel
theorem dX11_sheet_71 : decode cX11_sheet 71 = .ok (.aload_n 0, 1) := by decide +kernel
theorem dX11_sheet_72 : decode cX11_sheet 72 = .ok (.getfield 17, 3) := by decide +kernel
theorem dX11_sheet_75 : decode cX11_sheet 75 = .ok (.iconst 0, 1) := by decide +kernel
theorem dX11_sheet_76 : decode cX11_sheet 76 = .ok (.invokestatic 219, 3) := by decide +kernel
theorem dX11_sheet_79 : decode cX11_sheet 79 = .ok (.aload_n 0, 1) := by decide +kernel
theorem dX11_sheet_80 : decode cX11_sheet 80 = .ok (.iconst 1, 1) := by decide +kernel
theorem dX11_sheet_81 : decode cX11_sheet 81 = .ok (.putfield 223, 3) := by decide +kernel
theorem dX11_sheet_84 : decode cX11_sheet 84 = .ok (.aload_n 0, 1) := by decide +kernel
theorem dX11_sheet_85 : decode cX11_sheet 85 = .ok (.iconst 0, 1) := by decide +kernel
theorem dX11_sheet_86 : decode cX11_sheet 86 = .ok (.putfield 226, 3) := by decide +kernel
theorem dX11_sheet_89 : decode cX11_sheet 89 = .ok (.aload_n 0, 1) := by decide +kernel
theorem dX11_sheet_90 : decode cX11_sheet 90 = .ok (.invokevirtual 229, 3) := by decide +kernel
theorem dX11_sheet_93 : decode cX11_sheet 93 = .ok (.aload_n 0, 1) := by decide +kernel
theorem dX11_sheet_94 : decode cX11_sheet 94 = .ok (.getfield 17, 3) := by decide +kernel
theorem dX11_sheet_97 : decode cX11_sheet 97 = .ok (.iconst 2, 1) := by decide +kernel
theorem dX11_sheet_98 : decode cX11_sheet 98 = .ok (.iaload, 1) := by decide +kernel
theorem dX11_sheet_99 : decode cX11_sheet 99 = .ok (.ireturn, 1) := by decide +kernel
theorem dX11_fault_0 : decode cX11_fault 0 = .ok (.aload_n 0, 1) := by decide +kernel
theorem dX11_fault_1 : decode cX11_fault 1 = .ok (.iconst 0, 1) := by decide +kernel
theorem dX11_fault_2 : decode cX11_fault 2 = .ok (.putfield 99, 3) := by decide +kernel
theorem dX11_fault_5 : decode cX11_fault 5 = .ok (.aload_n 0, 1) := by decide +kernel
theorem dX11_fault_6 : decode cX11_fault 6 = .ok (.getfield 210, 3) := by decide +kernel
theorem dX11_fault_9 : decode cX11_fault 9 = .ok (.ireturn, 1) := by decide +kernel
theorem dX11_where_0 : decode cX11_where 0 = .ok (.aload_n 0, 1) := by decide +kernel
theorem dX11_where_1 : decode cX11_where 1 = .ok (.iconst 0, 1) := by decide +kernel
theorem dX11_where_2 : decode cX11_where 2 = .ok (.putfield 99, 3) := by decide +kernel
theorem dX11_where_5 : decode cX11_where 5 = .ok (.aload_n 0, 1) := by decide +kernel
theorem dX11_where_6 : decode cX11_where 6 = .ok (.getfield 102, 3) := by decide +kernel
theorem dX11_where_9 : decode cX11_where 9 = .ok (.iconst 4, 1) := by decide +kernel
theorem dX11_where_10 : decode cX11_where 10 = .ok (.if_icmp .ne 10, 3) := by decide +kernel
theorem dX11_where_13 : decode cX11_where 13 = .ok (.aload_n 0, 1) := by decide +kernel
theorem dX11_where_14 : decode cX11_where 14 = .ok (.getfield 9, 3) := by decide +kernel
theorem dX11_where_17 : decode cX11_where 17 = .ok (.goto 4, 3) := by decide +kernel
theorem dX11_where_20 : decode cX11_where 20 = .ok (.iconst (-1), 1) := by decide +kernel
theorem dX11_where_21 : decode cX11_where 21 = .ok (.ireturn, 1) := by decide +kernel
theorem dX11_endX_0 : decode cX11_endX 0 = .ok (.aload_n 0, 1) := by decide +kernel
theorem dX11_endX_1 : decode cX11_endX 1 = .ok (.getfield 17, 3) := by decide +kernel
theorem dX11_endX_4 : decode cX11_endX 4 = .ok (.bipush 7, 2) := by decide +kernel
theorem dX11_endX_6 : decode cX11_endX 6 = .ok (.iconst 2, 1) := by decide +kernel
theorem dX11_endX_7 : decode cX11_endX 7 = .ok (.iload_n 1, 1) := by decide +kernel
theorem dX11_endX_8 : decode cX11_endX 8 = .ok (.imul, 1) := by decide +kernel
theorem dX11_endX_9 : decode cX11_endX 9 = .ok (.iadd, 1) := by decide +kernel
theorem dX11_endX_10 : decode cX11_endX 10 = .ok (.iaload, 1) := by decide +kernel
theorem dX11_endX_11 : decode cX11_endX 11 = .ok (.ireturn, 1) := by decide +kernel
theorem dX11_endY_0 : decode cX11_endY 0 = .ok (.aload_n 0, 1) := by decide +kernel
theorem dX11_endY_1 : decode cX11_endY 1 = .ok (.getfield 17, 3) := by decide +kernel
theorem dX11_endY_4 : decode cX11_endY 4 = .ok (.bipush 7, 2) := by decide +kernel
theorem dX11_endY_6 : decode cX11_endY 6 = .ok (.iconst 2, 1) := by decide +kernel
theorem dX11_endY_7 : decode cX11_endY 7 = .ok (.iload_n 1, 1) := by decide +kernel
theorem dX11_endY_8 : decode cX11_endY 8 = .ok (.imul, 1) := by decide +kernel
theorem dX11_endY_9 : decode cX11_endY 9 = .ok (.iadd, 1) := by decide +kernel
theorem dX11_endY_10 : decode cX11_endY 10 = .ok (.iconst 1, 1) := by decide +kernel
theorem dX11_endY_11 : decode cX11_endY 11 = .ok (.iadd, 1) := by decide +kernel
theorem dX11_endY_12 : decode cX11_endY 12 = .ok (.iaload, 1) := by decide +kernel
theorem dX11_endY_13 : decode cX11_endY 13 = .ok (.ireturn, 1) := by decide +kernel
theorem dX11_apart_0 : decode cX11_apart 0 = .ok (.aload_n 0, 1) := by decide +kernel
theorem dX11_apart_1 : decode cX11_apart 1 = .ok (.iload_n 1, 1) := by decide +kernel
theorem dX11_apart_2 : decode cX11_apart 2 = .ok (.invokevirtual 232, 3) := by decide +kernel
theorem dX11_apart_5 : decode cX11_apart 5 = .ok (.aload_n 0, 1) := by decide +kernel
theorem dX11_apart_6 : decode cX11_apart 6 = .ok (.iload_n 2, 1) := by decide +kernel
theorem dX11_apart_7 : decode cX11_apart 7 = .ok (.invokevirtual 232, 3) := by decide +kernel
theorem dX11_apart_10 : decode cX11_apart 10 = .ok (.isub, 1) := by decide +kernel
theorem dX11_apart_11 : decode cX11_apart 11 = .ok (.invokestatic 235, 3) := by decide +kernel
theorem dX11_apart_14 : decode cX11_apart 14 = .ok (.aload_n 0, 1) := by decide +kernel
theorem dX11_apart_15 : decode cX11_apart 15 = .ok (.iload_n 1, 1) := by decide +kernel
theorem dX11_apart_16 : decode cX11_apart 16 = .ok (.invokevirtual 238, 3) := by decide +kernel
theorem dX11_apart_19 : decode cX11_apart 19 = .ok (.aload_n 0, 1) := by decide +kernel
theorem dX11_apart_20 : decode cX11_apart 20 = .ok (.iload_n 2, 1) := by decide +kernel
theorem dX11_apart_21 : decode cX11_apart 21 = .ok (.invokevirtual 238, 3) := by decide +kernel
theorem dX11_apart_24 : decode cX11_apart 24 = .ok (.isub, 1) := by decide +kernel
theorem dX11_apart_25 : decode cX11_apart 25 = .ok (.invokestatic 235, 3) := by decide +kernel
theorem dX11_apart_28 : decode cX11_apart 28 = .ok (.iadd, 1) := by decide +kernel
theorem dX11_apart_29 : decode cX11_apart 29 = .ok (.ireturn, 1) := by decide +kernel
theorem dX11_numbers_0 : decode cX11_numbers 0 = .ok (.iconst 0, 1) := by decide +kernel
theorem dX11_numbers_1 : decode cX11_numbers 1 = .ok (.istore_n 2, 1) := by decide +kernel
theorem dX11_numbers_2 : decode cX11_numbers 2 = .ok (.iconst 0, 1) := by decide +kernel
theorem dX11_numbers_3 : decode cX11_numbers 3 = .ok (.istore_n 3, 1) := by decide +kernel
theorem dX11_numbers_4 : decode cX11_numbers 4 = .ok (.iload_n 3, 1) := by decide +kernel
theorem dX11_numbers_5 : decode cX11_numbers 5 = .ok (.iload_n 1, 1) := by decide +kernel
theorem dX11_numbers_6 : decode cX11_numbers 6 = .ok (.if_icmp .ge 19, 3) := by decide +kernel
theorem dX11_numbers_9 : decode cX11_numbers 9 = .ok (.aload_n 0, 1) := by decide +kernel
theorem dX11_numbers_10 : decode cX11_numbers 10 = .ok (.iload_n 3, 1) := by decide +kernel
theorem dX11_numbers_11 : decode cX11_numbers 11 = .ok (.iaload, 1) := by decide +kernel
theorem dX11_numbers_12 : decode cX11_numbers 12 = .ok (.iload_n 3, 1) := by decide +kernel
theorem dX11_numbers_13 : decode cX11_numbers 13 = .ok (.if_icmp .ne 6, 3) := by decide +kernel
theorem dX11_numbers_16 : decode cX11_numbers 16 = .ok (.iinc 2 1, 3) := by decide +kernel
theorem dX11_numbers_19 : decode cX11_numbers 19 = .ok (.iinc 3 1, 3) := by decide +kernel
theorem dX11_numbers_22 : decode cX11_numbers 22 = .ok (.goto (-18), 3) := by decide +kernel
theorem dX11_numbers_25 : decode cX11_numbers 25 = .ok (.iconst 0, 1) := by decide +kernel
theorem dX11_numbers_26 : decode cX11_numbers 26 = .ok (.istore_n 3, 1) := by decide +kernel
theorem dX11_numbers_27 : decode cX11_numbers 27 = .ok (.iconst 0, 1) := by decide +kernel
theorem dX11_numbers_28 : decode cX11_numbers 28 = .ok (.istore 4, 2) := by decide +kernel
theorem dX11_numbers_30 : decode cX11_numbers 30 = .ok (.iload 4, 2) := by decide +kernel
theorem dX11_numbers_32 : decode cX11_numbers 32 = .ok (.iload_n 1, 1) := by decide +kernel
theorem dX11_numbers_33 : decode cX11_numbers 33 = .ok (.if_icmp .ge 81, 3) := by decide +kernel
theorem dX11_numbers_36 : decode cX11_numbers 36 = .ok (.aload_n 0, 1) := by decide +kernel
theorem dX11_numbers_37 : decode cX11_numbers 37 = .ok (.iload 4, 2) := by decide +kernel
theorem dX11_numbers_39 : decode cX11_numbers 39 = .ok (.iaload, 1) := by decide +kernel
theorem dX11_numbers_40 : decode cX11_numbers 40 = .ok (.iload 4, 2) := by decide +kernel
theorem dX11_numbers_42 : decode cX11_numbers 42 = .ok (.if_icmp .ne 7, 3) := by decide +kernel
theorem dX11_numbers_45 : decode cX11_numbers 45 = .ok (.iconst 1, 1) := by decide +kernel
theorem dX11_numbers_46 : decode cX11_numbers 46 = .ok (.goto 4, 3) := by decide +kernel
theorem dX11_numbers_49 : decode cX11_numbers 49 = .ok (.iconst 0, 1) := by decide +kernel
theorem dX11_numbers_50 : decode cX11_numbers 50 = .ok (.istore 5, 2) := by decide +kernel
theorem dX11_numbers_52 : decode cX11_numbers 52 = .ok (.iload 5, 2) := by decide +kernel
theorem dX11_numbers_54 : decode cX11_numbers 54 = .ok (.ifCond .eq 54, 3) := by decide +kernel
theorem dX11_numbers_57 : decode cX11_numbers 57 = .ok (.iload 4, 2) := by decide +kernel
theorem dX11_numbers_59 : decode cX11_numbers 59 = .ok (.iconst 1, 1) := by decide +kernel
theorem dX11_numbers_60 : decode cX11_numbers 60 = .ok (.iadd, 1) := by decide +kernel
theorem dX11_numbers_61 : decode cX11_numbers 61 = .ok (.istore 6, 2) := by decide +kernel
theorem dX11_numbers_63 : decode cX11_numbers 63 = .ok (.iload 6, 2) := by decide +kernel
theorem dX11_numbers_65 : decode cX11_numbers 65 = .ok (.iload_n 1, 1) := by decide +kernel
theorem dX11_numbers_66 : decode cX11_numbers 66 = .ok (.if_icmp .ge 32, 3) := by decide +kernel
theorem dX11_numbers_69 : decode cX11_numbers 69 = .ok (.aload_n 0, 1) := by decide +kernel
theorem dX11_numbers_70 : decode cX11_numbers 70 = .ok (.iload 6, 2) := by decide +kernel
theorem dX11_numbers_72 : decode cX11_numbers 72 = .ok (.aload_n 0, 1) := by decide +kernel
theorem dX11_numbers_73 : decode cX11_numbers 73 = .ok (.iload 6, 2) := by decide +kernel
theorem dX11_numbers_75 : decode cX11_numbers 75 = .ok (.iaload, 1) := by decide +kernel
theorem dX11_numbers_76 : decode cX11_numbers 76 = .ok (.iload 4, 2) := by decide +kernel
theorem dX11_numbers_78 : decode cX11_numbers 78 = .ok (.if_icmp .ne 9, 3) := by decide +kernel
theorem dX11_numbers_81 : decode cX11_numbers 81 = .ok (.iconst (-1), 1) := by decide +kernel
theorem dX11_numbers_82 : decode cX11_numbers 82 = .ok (.iload_n 3, 1) := by decide +kernel
theorem dX11_numbers_83 : decode cX11_numbers 83 = .ok (.isub, 1) := by decide +kernel
theorem dX11_numbers_84 : decode cX11_numbers 84 = .ok (.goto 7, 3) := by decide +kernel
theorem dX11_numbers_87 : decode cX11_numbers 87 = .ok (.aload_n 0, 1) := by decide +kernel
theorem dX11_numbers_88 : decode cX11_numbers 88 = .ok (.iload 6, 2) := by decide +kernel
theorem dX11_numbers_90 : decode cX11_numbers 90 = .ok (.iaload, 1) := by decide +kernel
theorem dX11_numbers_91 : decode cX11_numbers 91 = .ok (.iastore, 1) := by decide +kernel
theorem dX11_numbers_92 : decode cX11_numbers 92 = .ok (.iinc 6 1, 3) := by decide +kernel
theorem dX11_numbers_95 : decode cX11_numbers 95 = .ok (.goto (-32), 3) := by decide +kernel
theorem dX11_numbers_98 : decode cX11_numbers 98 = .ok (.aload_n 0, 1) := by decide +kernel
theorem dX11_numbers_99 : decode cX11_numbers 99 = .ok (.iload 4, 2) := by decide +kernel
theorem dX11_numbers_101 : decode cX11_numbers 101 = .ok (.iconst (-1), 1) := by decide +kernel
theorem dX11_numbers_102 : decode cX11_numbers 102 = .ok (.iload_n 3, 1) := by decide +kernel
theorem dX11_numbers_103 : decode cX11_numbers 103 = .ok (.isub, 1) := by decide +kernel
theorem dX11_numbers_104 : decode cX11_numbers 104 = .ok (.iastore, 1) := by decide +kernel
theorem dX11_numbers_105 : decode cX11_numbers 105 = .ok (.iinc 3 1, 3) := by decide +kernel
theorem dX11_numbers_108 : decode cX11_numbers 108 = .ok (.iinc 4 1, 3) := by decide +kernel
theorem dX11_numbers_111 : decode cX11_numbers 111 = .ok (.goto (-81), 3) := by decide +kernel
theorem dX11_numbers_114 : decode cX11_numbers 114 = .ok (.iconst 0, 1) := by decide +kernel
theorem dX11_numbers_115 : decode cX11_numbers 115 = .ok (.istore 4, 2) := by decide +kernel
theorem dX11_numbers_117 : decode cX11_numbers 117 = .ok (.iload 4, 2) := by decide +kernel
theorem dX11_numbers_119 : decode cX11_numbers 119 = .ok (.iload_n 1, 1) := by decide +kernel
theorem dX11_numbers_120 : decode cX11_numbers 120 = .ok (.if_icmp .ge 19, 3) := by decide +kernel
theorem dX11_numbers_123 : decode cX11_numbers 123 = .ok (.aload_n 0, 1) := by decide +kernel
theorem dX11_numbers_124 : decode cX11_numbers 124 = .ok (.iload 4, 2) := by decide +kernel
theorem dX11_numbers_126 : decode cX11_numbers 126 = .ok (.iconst (-1), 1) := by decide +kernel
theorem dX11_numbers_127 : decode cX11_numbers 127 = .ok (.aload_n 0, 1) := by decide +kernel
theorem dX11_numbers_128 : decode cX11_numbers 128 = .ok (.iload 4, 2) := by decide +kernel
theorem dX11_numbers_130 : decode cX11_numbers 130 = .ok (.iaload, 1) := by decide +kernel
theorem dX11_numbers_131 : decode cX11_numbers 131 = .ok (.isub, 1) := by decide +kernel
theorem dX11_numbers_132 : decode cX11_numbers 132 = .ok (.iastore, 1) := by decide +kernel
theorem dX11_numbers_133 : decode cX11_numbers 133 = .ok (.iinc 4 1, 3) := by decide +kernel
theorem dX11_numbers_136 : decode cX11_numbers 136 = .ok (.goto (-19), 3) := by decide +kernel
theorem dX11_numbers_139 : decode cX11_numbers 139 = .ok (.iload_n 2, 1) := by decide +kernel
theorem dX11_numbers_140 : decode cX11_numbers 140 = .ok (.ireturn, 1) := by decide +kernel
theorem dX11_laysMeetings_0 : decode cX11_laysMeetings 0 = .ok (.iconst 2, 1) := by decide +kernel
theorem dX11_laysMeetings_1 : decode cX11_laysMeetings 1 = .ok (.aload_n 0, 1) := by decide +kernel
theorem dX11_laysMeetings_2 : decode cX11_laysMeetings 2 = .ok (.getfield 17, 3) := by decide +kernel
theorem dX11_laysMeetings_5 : decode cX11_laysMeetings 5 = .ok (.iconst 2, 1) := by decide +kernel
theorem dX11_laysMeetings_6 : decode cX11_laysMeetings 6 = .ok (.iaload, 1) := by decide +kernel
theorem dX11_laysMeetings_7 : decode cX11_laysMeetings 7 = .ok (.imul, 1) := by decide +kernel
theorem dX11_laysMeetings_8 : decode cX11_laysMeetings 8 = .ok (.istore_n 1, 1) := by decide +kernel
theorem dX11_laysMeetings_9 : decode cX11_laysMeetings 9 = .ok (.iconst 0, 1) := by decide +kernel
theorem dX11_laysMeetings_10 : decode cX11_laysMeetings 10 = .ok (.istore_n 2, 1) := by decide +kernel
theorem dX11_laysMeetings_11 : decode cX11_laysMeetings 11 = .ok (.iload_n 2, 1) := by decide +kernel
theorem dX11_laysMeetings_12 : decode cX11_laysMeetings 12 = .ok (.iload_n 1, 1) := by decide +kernel
theorem dX11_laysMeetings_13 : decode cX11_laysMeetings 13 = .ok (.if_icmp .ge 16, 3) := by decide +kernel
theorem dX11_laysMeetings_16 : decode cX11_laysMeetings 16 = .ok (.aload_n 0, 1) := by decide +kernel
theorem dX11_laysMeetings_17 : decode cX11_laysMeetings 17 = .ok (.getfield 29, 3) := by decide +kernel
theorem dX11_laysMeetings_20 : decode cX11_laysMeetings 20 = .ok (.iload_n 2, 1) := by decide +kernel
theorem dX11_laysMeetings_21 : decode cX11_laysMeetings 21 = .ok (.iload_n 2, 1) := by decide +kernel
theorem dX11_laysMeetings_22 : decode cX11_laysMeetings 22 = .ok (.iastore, 1) := by decide +kernel
theorem dX11_laysMeetings_23 : decode cX11_laysMeetings 23 = .ok (.iinc 2 1, 3) := by decide +kernel
theorem dX11_laysMeetings_26 : decode cX11_laysMeetings 26 = .ok (.goto (-15), 3) := by decide +kernel
theorem dX11_laysMeetings_29 : decode cX11_laysMeetings 29 = .ok (.iconst 1, 1) := by decide +kernel
theorem dX11_laysMeetings_30 : decode cX11_laysMeetings 30 = .ok (.istore_n 2, 1) := by decide +kernel
theorem dX11_laysMeetings_31 : decode cX11_laysMeetings 31 = .ok (.iload_n 2, 1) := by decide +kernel
theorem dX11_laysMeetings_32 : decode cX11_laysMeetings 32 = .ok (.ifCond .eq 83, 3) := by decide +kernel
theorem dX11_laysMeetings_35 : decode cX11_laysMeetings 35 = .ok (.iconst 0, 1) := by decide +kernel
theorem dX11_laysMeetings_36 : decode cX11_laysMeetings 36 = .ok (.istore_n 2, 1) := by decide +kernel
theorem dX11_laysMeetings_37 : decode cX11_laysMeetings 37 = .ok (.iconst 0, 1) := by decide +kernel
theorem dX11_laysMeetings_38 : decode cX11_laysMeetings 38 = .ok (.istore_n 3, 1) := by decide +kernel
theorem dX11_laysMeetings_39 : decode cX11_laysMeetings 39 = .ok (.iload_n 3, 1) := by decide +kernel
theorem dX11_laysMeetings_40 : decode cX11_laysMeetings 40 = .ok (.iload_n 1, 1) := by decide +kernel
theorem dX11_laysMeetings_41 : decode cX11_laysMeetings 41 = .ok (.if_icmp .ge 71, 3) := by decide +kernel
theorem dX11_laysMeetings_44 : decode cX11_laysMeetings 44 = .ok (.iconst 0, 1) := by decide +kernel
theorem dX11_laysMeetings_45 : decode cX11_laysMeetings 45 = .ok (.istore 4, 2) := by decide +kernel
theorem dX11_laysMeetings_47 : decode cX11_laysMeetings 47 = .ok (.iload 4, 2) := by decide +kernel
theorem dX11_laysMeetings_49 : decode cX11_laysMeetings 49 = .ok (.iload_n 1, 1) := by decide +kernel
theorem dX11_laysMeetings_50 : decode cX11_laysMeetings 50 = .ok (.if_icmp .ge 56, 3) := by decide +kernel
theorem dX11_laysMeetings_53 : decode cX11_laysMeetings 53 = .ok (.aload_n 0, 1) := by decide +kernel
theorem dX11_laysMeetings_54 : decode cX11_laysMeetings 54 = .ok (.iload_n 3, 1) := by decide +kernel
theorem dX11_laysMeetings_55 : decode cX11_laysMeetings 55 = .ok (.iload 4, 2) := by decide +kernel
theorem dX11_laysMeetings_57 : decode cX11_laysMeetings 57 = .ok (.invokevirtual 241, 3) := by decide +kernel
theorem dX11_laysMeetings_60 : decode cX11_laysMeetings 60 = .ok (.aload_n 0, 1) := by decide +kernel
theorem dX11_laysMeetings_61 : decode cX11_laysMeetings 61 = .ok (.getfield 17, 3) := by decide +kernel
theorem dX11_laysMeetings_64 : decode cX11_laysMeetings 64 = .ok (.iconst 1, 1) := by decide +kernel
theorem dX11_laysMeetings_65 : decode cX11_laysMeetings 65 = .ok (.iaload, 1) := by decide +kernel
theorem dX11_laysMeetings_66 : decode cX11_laysMeetings 66 = .ok (.if_icmp .gt 34, 3) := by decide +kernel
theorem dX11_laysMeetings_69 : decode cX11_laysMeetings 69 = .ok (.aload_n 0, 1) := by decide +kernel
theorem dX11_laysMeetings_70 : decode cX11_laysMeetings 70 = .ok (.getfield 29, 3) := by decide +kernel
theorem dX11_laysMeetings_73 : decode cX11_laysMeetings 73 = .ok (.iload 4, 2) := by decide +kernel
theorem dX11_laysMeetings_75 : decode cX11_laysMeetings 75 = .ok (.iaload, 1) := by decide +kernel
theorem dX11_laysMeetings_76 : decode cX11_laysMeetings 76 = .ok (.aload_n 0, 1) := by decide +kernel
theorem dX11_laysMeetings_77 : decode cX11_laysMeetings 77 = .ok (.getfield 29, 3) := by decide +kernel
theorem dX11_laysMeetings_80 : decode cX11_laysMeetings 80 = .ok (.iload_n 3, 1) := by decide +kernel
theorem dX11_laysMeetings_81 : decode cX11_laysMeetings 81 = .ok (.iaload, 1) := by decide +kernel
theorem dX11_laysMeetings_82 : decode cX11_laysMeetings 82 = .ok (.if_icmp .ge 18, 3) := by decide +kernel
theorem dX11_laysMeetings_85 : decode cX11_laysMeetings 85 = .ok (.aload_n 0, 1) := by decide +kernel
theorem dX11_laysMeetings_86 : decode cX11_laysMeetings 86 = .ok (.getfield 29, 3) := by decide +kernel
theorem dX11_laysMeetings_89 : decode cX11_laysMeetings 89 = .ok (.iload_n 3, 1) := by decide +kernel
theorem dX11_laysMeetings_90 : decode cX11_laysMeetings 90 = .ok (.aload_n 0, 1) := by decide +kernel
theorem dX11_laysMeetings_91 : decode cX11_laysMeetings 91 = .ok (.getfield 29, 3) := by decide +kernel
theorem dX11_laysMeetings_94 : decode cX11_laysMeetings 94 = .ok (.iload 4, 2) := by decide +kernel
theorem dX11_laysMeetings_96 : decode cX11_laysMeetings 96 = .ok (.iaload, 1) := by decide +kernel
theorem dX11_laysMeetings_97 : decode cX11_laysMeetings 97 = .ok (.iastore, 1) := by decide +kernel
theorem dX11_laysMeetings_98 : decode cX11_laysMeetings 98 = .ok (.iconst 1, 1) := by decide +kernel
theorem dX11_laysMeetings_99 : decode cX11_laysMeetings 99 = .ok (.istore_n 2, 1) := by decide +kernel
theorem dX11_laysMeetings_100 : decode cX11_laysMeetings 100 = .ok (.iinc 4 1, 3) := by decide +kernel
theorem dX11_laysMeetings_103 : decode cX11_laysMeetings 103 = .ok (.goto (-56), 3) := by decide +kernel
theorem dX11_laysMeetings_106 : decode cX11_laysMeetings 106 = .ok (.iinc 3 1, 3) := by decide +kernel
theorem dX11_laysMeetings_109 : decode cX11_laysMeetings 109 = .ok (.goto (-70), 3) := by decide +kernel
theorem dX11_laysMeetings_112 : decode cX11_laysMeetings 112 = .ok (.goto (-81), 3) := by decide +kernel
theorem dX11_laysMeetings_115 : decode cX11_laysMeetings 115 = .ok (.aload_n 0, 1) := by decide +kernel
theorem dX11_laysMeetings_116 : decode cX11_laysMeetings 116 = .ok (.aload_n 0, 1) := by decide +kernel
theorem dX11_laysMeetings_117 : decode cX11_laysMeetings 117 = .ok (.getfield 29, 3) := by decide +kernel
theorem dX11_laysMeetings_120 : decode cX11_laysMeetings 120 = .ok (.iload_n 1, 1) := by decide +kernel
theorem dX11_laysMeetings_121 : decode cX11_laysMeetings 121 = .ok (.invokestatic 245, 3) := by decide +kernel
theorem dX11_laysMeetings_124 : decode cX11_laysMeetings 124 = .ok (.putfield 249, 3) := by decide +kernel
theorem dX11_laysMeetings_127 : decode cX11_laysMeetings 127 = .ok (.iconst 0, 1) := by decide +kernel
theorem dX11_laysMeetings_128 : decode cX11_laysMeetings 128 = .ok (.istore_n 3, 1) := by decide +kernel
theorem dX11_laysMeetings_129 : decode cX11_laysMeetings 129 = .ok (.iload_n 3, 1) := by decide +kernel
theorem dX11_laysMeetings_130 : decode cX11_laysMeetings 130 = .ok (.aload_n 0, 1) := by decide +kernel
theorem dX11_laysMeetings_131 : decode cX11_laysMeetings 131 = .ok (.getfield 249, 3) := by decide +kernel
theorem dX11_laysMeetings_134 : decode cX11_laysMeetings 134 = .ok (.if_icmp .ge 16, 3) := by decide +kernel
theorem dX11_laysMeetings_137 : decode cX11_laysMeetings 137 = .ok (.aload_n 0, 1) := by decide +kernel
theorem dX11_laysMeetings_138 : decode cX11_laysMeetings 138 = .ok (.getfield 35, 3) := by decide +kernel
theorem dX11_laysMeetings_141 : decode cX11_laysMeetings 141 = .ok (.iload_n 3, 1) := by decide +kernel
theorem dX11_laysMeetings_142 : decode cX11_laysMeetings 142 = .ok (.iconst 0, 1) := by decide +kernel
theorem dX11_laysMeetings_143 : decode cX11_laysMeetings 143 = .ok (.iastore, 1) := by decide +kernel
theorem dX11_laysMeetings_144 : decode cX11_laysMeetings 144 = .ok (.iinc 3 1, 3) := by decide +kernel
theorem dX11_laysMeetings_147 : decode cX11_laysMeetings 147 = .ok (.goto (-18), 3) := by decide +kernel
theorem dX11_laysMeetings_150 : decode cX11_laysMeetings 150 = .ok (.iload_n 1, 1) := by decide +kernel
theorem dX11_laysMeetings_151 : decode cX11_laysMeetings 151 = .ok (.iconst 1, 1) := by decide +kernel
theorem dX11_laysMeetings_152 : decode cX11_laysMeetings 152 = .ok (.isub, 1) := by decide +kernel
theorem dX11_laysMeetings_153 : decode cX11_laysMeetings 153 = .ok (.istore_n 3, 1) := by decide +kernel
theorem dX11_laysMeetings_154 : decode cX11_laysMeetings 154 = .ok (.iload_n 3, 1) := by decide +kernel
theorem dX11_laysMeetings_155 : decode cX11_laysMeetings 155 = .ok (.ifCond .lt 36, 3) := by decide +kernel
theorem dX11_laysMeetings_158 : decode cX11_laysMeetings 158 = .ok (.aload_n 0, 1) := by decide +kernel
theorem dX11_laysMeetings_159 : decode cX11_laysMeetings 159 = .ok (.getfield 32, 3) := by decide +kernel
theorem dX11_laysMeetings_162 : decode cX11_laysMeetings 162 = .ok (.aload_n 0, 1) := by decide +kernel
theorem dX11_laysMeetings_163 : decode cX11_laysMeetings 163 = .ok (.getfield 29, 3) := by decide +kernel
theorem dX11_laysMeetings_166 : decode cX11_laysMeetings 166 = .ok (.iload_n 3, 1) := by decide +kernel
theorem dX11_laysMeetings_167 : decode cX11_laysMeetings 167 = .ok (.iaload, 1) := by decide +kernel
theorem dX11_laysMeetings_168 : decode cX11_laysMeetings 168 = .ok (.iload_n 3, 1) := by decide +kernel
theorem dX11_laysMeetings_169 : decode cX11_laysMeetings 169 = .ok (.iastore, 1) := by decide +kernel
theorem dX11_laysMeetings_170 : decode cX11_laysMeetings 170 = .ok (.aload_n 0, 1) := by decide +kernel
theorem dX11_laysMeetings_171 : decode cX11_laysMeetings 171 = .ok (.getfield 35, 3) := by decide +kernel
theorem dX11_laysMeetings_174 : decode cX11_laysMeetings 174 = .ok (.aload_n 0, 1) := by decide +kernel
theorem dX11_laysMeetings_175 : decode cX11_laysMeetings 175 = .ok (.getfield 29, 3) := by decide +kernel
theorem dX11_laysMeetings_178 : decode cX11_laysMeetings 178 = .ok (.iload_n 3, 1) := by decide +kernel
theorem dX11_laysMeetings_179 : decode cX11_laysMeetings 179 = .ok (.iaload, 1) := by decide +kernel
theorem dX11_laysMeetings_180 : decode cX11_laysMeetings 180 = .ok (.dup2, 1) := by decide +kernel
theorem dX11_laysMeetings_181 : decode cX11_laysMeetings 181 = .ok (.iaload, 1) := by decide +kernel
theorem dX11_laysMeetings_182 : decode cX11_laysMeetings 182 = .ok (.iconst 1, 1) := by decide +kernel
theorem dX11_laysMeetings_183 : decode cX11_laysMeetings 183 = .ok (.iadd, 1) := by decide +kernel
theorem dX11_laysMeetings_184 : decode cX11_laysMeetings 184 = .ok (.iastore, 1) := by decide +kernel
theorem dX11_laysMeetings_185 : decode cX11_laysMeetings 185 = .ok (.iinc 3 (-1), 3) := by decide +kernel
theorem dX11_laysMeetings_188 : decode cX11_laysMeetings 188 = .ok (.goto (-34), 3) := by decide +kernel
theorem dX11_laysMeetings_191 : decode cX11_laysMeetings 191 = .ok (.aload_n 0, 1) := by decide +kernel
theorem dX11_laysMeetings_192 : decode cX11_laysMeetings 192 = .ok (.invokevirtual 252, 3) := by decide +kernel
theorem dX11_laysMeetings_195 : decode cX11_laysMeetings 195 = .ok (.return_, 1) := by decide +kernel
theorem dX11_laysParts_0 : decode cX11_laysParts 0 = .ok (.iconst 0, 1) := by decide +kernel
theorem dX11_laysParts_1 : decode cX11_laysParts 1 = .ok (.istore_n 1, 1) := by decide +kernel
theorem dX11_laysParts_2 : decode cX11_laysParts 2 = .ok (.iload_n 1, 1) := by decide +kernel
theorem dX11_laysParts_3 : decode cX11_laysParts 3 = .ok (.aload_n 0, 1) := by decide +kernel
theorem dX11_laysParts_4 : decode cX11_laysParts 4 = .ok (.getfield 249, 3) := by decide +kernel
theorem dX11_laysParts_7 : decode cX11_laysParts 7 = .ok (.if_icmp .ge 16, 3) := by decide +kernel
theorem dX11_laysParts_10 : decode cX11_laysParts 10 = .ok (.aload_n 0, 1) := by decide +kernel
theorem dX11_laysParts_11 : decode cX11_laysParts 11 = .ok (.getfield 38, 3) := by decide +kernel
theorem dX11_laysParts_14 : decode cX11_laysParts 14 = .ok (.iload_n 1, 1) := by decide +kernel
theorem dX11_laysParts_15 : decode cX11_laysParts 15 = .ok (.iload_n 1, 1) := by decide +kernel
theorem dX11_laysParts_16 : decode cX11_laysParts 16 = .ok (.iastore, 1) := by decide +kernel
theorem dX11_laysParts_17 : decode cX11_laysParts 17 = .ok (.iinc 1 1, 3) := by decide +kernel
theorem dX11_laysParts_20 : decode cX11_laysParts 20 = .ok (.goto (-18), 3) := by decide +kernel
theorem dX11_laysParts_23 : decode cX11_laysParts 23 = .ok (.iconst 1, 1) := by decide +kernel
theorem dX11_laysParts_24 : decode cX11_laysParts 24 = .ok (.istore_n 1, 1) := by decide +kernel
theorem dX11_laysParts_25 : decode cX11_laysParts 25 = .ok (.iload_n 1, 1) := by decide +kernel
theorem dX11_laysParts_26 : decode cX11_laysParts 26 = .ok (.ifCond .eq 116, 3) := by decide +kernel
theorem dX11_laysParts_29 : decode cX11_laysParts 29 = .ok (.iconst 0, 1) := by decide +kernel
theorem dX11_laysParts_30 : decode cX11_laysParts 30 = .ok (.istore_n 1, 1) := by decide +kernel
theorem dX11_laysParts_31 : decode cX11_laysParts 31 = .ok (.iconst 0, 1) := by decide +kernel
theorem dX11_laysParts_32 : decode cX11_laysParts 32 = .ok (.istore_n 2, 1) := by decide +kernel
theorem dX11_laysParts_33 : decode cX11_laysParts 33 = .ok (.iload_n 2, 1) := by decide +kernel
theorem dX11_laysParts_34 : decode cX11_laysParts 34 = .ok (.aload_n 0, 1) := by decide +kernel
theorem dX11_laysParts_35 : decode cX11_laysParts 35 = .ok (.getfield 17, 3) := by decide +kernel
theorem dX11_laysParts_38 : decode cX11_laysParts 38 = .ok (.iconst 2, 1) := by decide +kernel
theorem dX11_laysParts_39 : decode cX11_laysParts 39 = .ok (.iaload, 1) := by decide +kernel
theorem dX11_laysParts_40 : decode cX11_laysParts 40 = .ok (.if_icmp .ge 99, 3) := by decide +kernel
theorem dX11_laysParts_43 : decode cX11_laysParts 43 = .ok (.aload_n 0, 1) := by decide +kernel
theorem dX11_laysParts_44 : decode cX11_laysParts 44 = .ok (.getfield 29, 3) := by decide +kernel
theorem dX11_laysParts_47 : decode cX11_laysParts 47 = .ok (.iconst 2, 1) := by decide +kernel
theorem dX11_laysParts_48 : decode cX11_laysParts 48 = .ok (.iload_n 2, 1) := by decide +kernel
theorem dX11_laysParts_49 : decode cX11_laysParts 49 = .ok (.imul, 1) := by decide +kernel
theorem dX11_laysParts_50 : decode cX11_laysParts 50 = .ok (.iaload, 1) := by decide +kernel
theorem dX11_laysParts_51 : decode cX11_laysParts 51 = .ok (.istore_n 3, 1) := by decide +kernel
theorem dX11_laysParts_52 : decode cX11_laysParts 52 = .ok (.aload_n 0, 1) := by decide +kernel
theorem dX11_laysParts_53 : decode cX11_laysParts 53 = .ok (.getfield 29, 3) := by decide +kernel
theorem dX11_laysParts_56 : decode cX11_laysParts 56 = .ok (.iconst 2, 1) := by decide +kernel
theorem dX11_laysParts_57 : decode cX11_laysParts 57 = .ok (.iload_n 2, 1) := by decide +kernel
theorem dX11_laysParts_58 : decode cX11_laysParts 58 = .ok (.imul, 1) := by decide +kernel
theorem dX11_laysParts_59 : decode cX11_laysParts 59 = .ok (.iconst 1, 1) := by decide +kernel
theorem dX11_laysParts_60 : decode cX11_laysParts 60 = .ok (.iadd, 1) := by decide +kernel
theorem dX11_laysParts_61 : decode cX11_laysParts 61 = .ok (.iaload, 1) := by decide +kernel
theorem dX11_laysParts_62 : decode cX11_laysParts 62 = .ok (.istore 4, 2) := by decide +kernel
theorem dX11_laysParts_64 : decode cX11_laysParts 64 = .ok (.aload_n 0, 1) := by decide +kernel
theorem dX11_laysParts_65 : decode cX11_laysParts 65 = .ok (.getfield 38, 3) := by decide +kernel
theorem dX11_laysParts_68 : decode cX11_laysParts 68 = .ok (.iload_n 3, 1) := by decide +kernel
theorem dX11_laysParts_69 : decode cX11_laysParts 69 = .ok (.iaload, 1) := by decide +kernel
theorem dX11_laysParts_70 : decode cX11_laysParts 70 = .ok (.aload_n 0, 1) := by decide +kernel
theorem dX11_laysParts_71 : decode cX11_laysParts 71 = .ok (.getfield 38, 3) := by decide +kernel
theorem dX11_laysParts_74 : decode cX11_laysParts 74 = .ok (.iload 4, 2) := by decide +kernel
theorem dX11_laysParts_76 : decode cX11_laysParts 76 = .ok (.iaload, 1) := by decide +kernel
theorem dX11_laysParts_77 : decode cX11_laysParts 77 = .ok (.if_icmp .eq 56, 3) := by decide +kernel
theorem dX11_laysParts_80 : decode cX11_laysParts 80 = .ok (.aload_n 0, 1) := by decide +kernel
theorem dX11_laysParts_81 : decode cX11_laysParts 81 = .ok (.getfield 38, 3) := by decide +kernel
theorem dX11_laysParts_84 : decode cX11_laysParts 84 = .ok (.iload_n 3, 1) := by decide +kernel
theorem dX11_laysParts_85 : decode cX11_laysParts 85 = .ok (.iaload, 1) := by decide +kernel
theorem dX11_laysParts_86 : decode cX11_laysParts 86 = .ok (.aload_n 0, 1) := by decide +kernel
theorem dX11_laysParts_87 : decode cX11_laysParts 87 = .ok (.getfield 38, 3) := by decide +kernel
theorem dX11_laysParts_90 : decode cX11_laysParts 90 = .ok (.iload 4, 2) := by decide +kernel
theorem dX11_laysParts_92 : decode cX11_laysParts 92 = .ok (.iaload, 1) := by decide +kernel
theorem dX11_laysParts_93 : decode cX11_laysParts 93 = .ok (.if_icmp .ge 12, 3) := by decide +kernel
theorem dX11_laysParts_96 : decode cX11_laysParts 96 = .ok (.aload_n 0, 1) := by decide +kernel
theorem dX11_laysParts_97 : decode cX11_laysParts 97 = .ok (.getfield 38, 3) := by decide +kernel
theorem dX11_laysParts_100 : decode cX11_laysParts 100 = .ok (.iload_n 3, 1) := by decide +kernel
theorem dX11_laysParts_101 : decode cX11_laysParts 101 = .ok (.iaload, 1) := by decide +kernel
theorem dX11_laysParts_102 : decode cX11_laysParts 102 = .ok (.goto 10, 3) := by decide +kernel
theorem dX11_laysParts_105 : decode cX11_laysParts 105 = .ok (.aload_n 0, 1) := by decide +kernel
theorem dX11_laysParts_106 : decode cX11_laysParts 106 = .ok (.getfield 38, 3) := by decide +kernel
theorem dX11_laysParts_109 : decode cX11_laysParts 109 = .ok (.iload 4, 2) := by decide +kernel
theorem dX11_laysParts_111 : decode cX11_laysParts 111 = .ok (.iaload, 1) := by decide +kernel
theorem dX11_laysParts_112 : decode cX11_laysParts 112 = .ok (.istore 5, 2) := by decide +kernel
theorem dX11_laysParts_114 : decode cX11_laysParts 114 = .ok (.aload_n 0, 1) := by decide +kernel
theorem dX11_laysParts_115 : decode cX11_laysParts 115 = .ok (.getfield 38, 3) := by decide +kernel
theorem dX11_laysParts_118 : decode cX11_laysParts 118 = .ok (.iload_n 3, 1) := by decide +kernel
theorem dX11_laysParts_119 : decode cX11_laysParts 119 = .ok (.iload 5, 2) := by decide +kernel
theorem dX11_laysParts_121 : decode cX11_laysParts 121 = .ok (.iastore, 1) := by decide +kernel
theorem dX11_laysParts_122 : decode cX11_laysParts 122 = .ok (.aload_n 0, 1) := by decide +kernel
theorem dX11_laysParts_123 : decode cX11_laysParts 123 = .ok (.getfield 38, 3) := by decide +kernel
theorem dX11_laysParts_126 : decode cX11_laysParts 126 = .ok (.iload 4, 2) := by decide +kernel
theorem dX11_laysParts_128 : decode cX11_laysParts 128 = .ok (.iload 5, 2) := by decide +kernel
theorem dX11_laysParts_130 : decode cX11_laysParts 130 = .ok (.iastore, 1) := by decide +kernel
theorem dX11_laysParts_131 : decode cX11_laysParts 131 = .ok (.iconst 1, 1) := by decide +kernel
theorem dX11_laysParts_132 : decode cX11_laysParts 132 = .ok (.istore_n 1, 1) := by decide +kernel
theorem dX11_laysParts_133 : decode cX11_laysParts 133 = .ok (.iinc 2 1, 3) := by decide +kernel
theorem dX11_laysParts_136 : decode cX11_laysParts 136 = .ok (.goto (-103), 3) := by decide +kernel
theorem dX11_laysParts_139 : decode cX11_laysParts 139 = .ok (.goto (-114), 3) := by decide +kernel
theorem dX11_laysParts_142 : decode cX11_laysParts 142 = .ok (.aload_n 0, 1) := by decide +kernel
theorem dX11_laysParts_143 : decode cX11_laysParts 143 = .ok (.aload_n 0, 1) := by decide +kernel
theorem dX11_laysParts_144 : decode cX11_laysParts 144 = .ok (.getfield 38, 3) := by decide +kernel
theorem dX11_laysParts_147 : decode cX11_laysParts 147 = .ok (.aload_n 0, 1) := by decide +kernel
theorem dX11_laysParts_148 : decode cX11_laysParts 148 = .ok (.getfield 249, 3) := by decide +kernel
theorem dX11_laysParts_151 : decode cX11_laysParts 151 = .ok (.invokestatic 245, 3) := by decide +kernel
theorem dX11_laysParts_154 : decode cX11_laysParts 154 = .ok (.putfield 255, 3) := by decide +kernel
theorem dX11_laysParts_157 : decode cX11_laysParts 157 = .ok (.return_, 1) := by decide +kernel
theorem dX11_isOdd_0 : decode cX11_isOdd 0 = .ok (.aload_n 0, 1) := by decide +kernel
theorem dX11_isOdd_1 : decode cX11_isOdd 1 = .ok (.getfield 35, 3) := by decide +kernel
theorem dX11_isOdd_4 : decode cX11_isOdd 4 = .ok (.iload_n 1, 1) := by decide +kernel
theorem dX11_isOdd_5 : decode cX11_isOdd 5 = .ok (.iaload, 1) := by decide +kernel
theorem dX11_isOdd_6 : decode cX11_isOdd 6 = .ok (.iconst 2, 1) := by decide +kernel
theorem dX11_isOdd_7 : decode cX11_isOdd 7 = .ok (.irem, 1) := by decide +kernel
theorem dX11_isOdd_8 : decode cX11_isOdd 8 = .ok (.iconst 1, 1) := by decide +kernel
theorem dX11_isOdd_9 : decode cX11_isOdd 9 = .ok (.if_icmp .ne 7, 3) := by decide +kernel
theorem dX11_isOdd_12 : decode cX11_isOdd 12 = .ok (.iconst 1, 1) := by decide +kernel
theorem dX11_isOdd_13 : decode cX11_isOdd 13 = .ok (.goto 4, 3) := by decide +kernel
theorem dX11_isOdd_16 : decode cX11_isOdd 16 = .ok (.iconst 0, 1) := by decide +kernel
theorem dX11_isOdd_17 : decode cX11_isOdd 17 = .ok (.ireturn, 1) := by decide +kernel
theorem dX11_far_0 : decode cX11_far 0 = .ok (.aload_n 0, 1) := by decide +kernel
theorem dX11_far_1 : decode cX11_far 1 = .ok (.aload_n 0, 1) := by decide +kernel
theorem dX11_far_2 : decode cX11_far 2 = .ok (.getfield 32, 3) := by decide +kernel
theorem dX11_far_5 : decode cX11_far 5 = .ok (.iload_n 1, 1) := by decide +kernel
theorem dX11_far_6 : decode cX11_far 6 = .ok (.iaload, 1) := by decide +kernel
theorem dX11_far_7 : decode cX11_far 7 = .ok (.aload_n 0, 1) := by decide +kernel
theorem dX11_far_8 : decode cX11_far 8 = .ok (.getfield 32, 3) := by decide +kernel
theorem dX11_far_11 : decode cX11_far 11 = .ok (.iload_n 2, 1) := by decide +kernel
theorem dX11_far_12 : decode cX11_far 12 = .ok (.iaload, 1) := by decide +kernel
theorem dX11_far_13 : decode cX11_far 13 = .ok (.invokevirtual 241, 3) := by decide +kernel
theorem dX11_far_16 : decode cX11_far 16 = .ok (.ireturn, 1) := by decide +kernel
theorem dX11_laysPairs_0 : decode cX11_laysPairs 0 = .ok (.aload_n 0, 1) := by decide +kernel
theorem dX11_laysPairs_1 : decode cX11_laysPairs 1 = .ok (.iconst 0, 1) := by decide +kernel
theorem dX11_laysPairs_2 : decode cX11_laysPairs 2 = .ok (.putfield 258, 3) := by decide +kernel
theorem dX11_laysPairs_5 : decode cX11_laysPairs 5 = .ok (.iconst 0, 1) := by decide +kernel
theorem dX11_laysPairs_6 : decode cX11_laysPairs 6 = .ok (.istore_n 1, 1) := by decide +kernel
theorem dX11_laysPairs_7 : decode cX11_laysPairs 7 = .ok (.iload_n 1, 1) := by decide +kernel
theorem dX11_laysPairs_8 : decode cX11_laysPairs 8 = .ok (.aload_n 0, 1) := by decide +kernel
theorem dX11_laysPairs_9 : decode cX11_laysPairs 9 = .ok (.getfield 255, 3) := by decide +kernel
theorem dX11_laysPairs_12 : decode cX11_laysPairs 12 = .ok (.if_icmp .ge 192, 3) := by decide +kernel
theorem dX11_laysPairs_15 : decode cX11_laysPairs 15 = .ok (.aload_n 0, 1) := by decide +kernel
theorem dX11_laysPairs_16 : decode cX11_laysPairs 16 = .ok (.iconst 0, 1) := by decide +kernel
theorem dX11_laysPairs_17 : decode cX11_laysPairs 17 = .ok (.putfield 261, 3) := by decide +kernel
theorem dX11_laysPairs_20 : decode cX11_laysPairs 20 = .ok (.iconst 0, 1) := by decide +kernel
theorem dX11_laysPairs_21 : decode cX11_laysPairs 21 = .ok (.istore_n 2, 1) := by decide +kernel
theorem dX11_laysPairs_22 : decode cX11_laysPairs 22 = .ok (.iload_n 2, 1) := by decide +kernel
theorem dX11_laysPairs_23 : decode cX11_laysPairs 23 = .ok (.aload_n 0, 1) := by decide +kernel
theorem dX11_laysPairs_24 : decode cX11_laysPairs 24 = .ok (.getfield 249, 3) := by decide +kernel
theorem dX11_laysPairs_27 : decode cX11_laysPairs 27 = .ok (.if_icmp .ge 47, 3) := by decide +kernel
theorem dX11_laysPairs_30 : decode cX11_laysPairs 30 = .ok (.aload_n 0, 1) := by decide +kernel
theorem dX11_laysPairs_31 : decode cX11_laysPairs 31 = .ok (.getfield 38, 3) := by decide +kernel
theorem dX11_laysPairs_34 : decode cX11_laysPairs 34 = .ok (.iload_n 2, 1) := by decide +kernel
theorem dX11_laysPairs_35 : decode cX11_laysPairs 35 = .ok (.iaload, 1) := by decide +kernel
theorem dX11_laysPairs_36 : decode cX11_laysPairs 36 = .ok (.iload_n 1, 1) := by decide +kernel
theorem dX11_laysPairs_37 : decode cX11_laysPairs 37 = .ok (.if_icmp .ne 31, 3) := by decide +kernel
theorem dX11_laysPairs_40 : decode cX11_laysPairs 40 = .ok (.aload_n 0, 1) := by decide +kernel
theorem dX11_laysPairs_41 : decode cX11_laysPairs 41 = .ok (.iload_n 2, 1) := by decide +kernel
theorem dX11_laysPairs_42 : decode cX11_laysPairs 42 = .ok (.invokevirtual 264, 3) := by decide +kernel
theorem dX11_laysPairs_45 : decode cX11_laysPairs 45 = .ok (.ifCond .eq 23, 3) := by decide +kernel
theorem dX11_laysPairs_48 : decode cX11_laysPairs 48 = .ok (.aload_n 0, 1) := by decide +kernel
theorem dX11_laysPairs_49 : decode cX11_laysPairs 49 = .ok (.getfield 53, 3) := by decide +kernel
theorem dX11_laysPairs_52 : decode cX11_laysPairs 52 = .ok (.aload_n 0, 1) := by decide +kernel
theorem dX11_laysPairs_53 : decode cX11_laysPairs 53 = .ok (.getfield 261, 3) := by decide +kernel
theorem dX11_laysPairs_56 : decode cX11_laysPairs 56 = .ok (.iload_n 2, 1) := by decide +kernel
theorem dX11_laysPairs_57 : decode cX11_laysPairs 57 = .ok (.iastore, 1) := by decide +kernel
theorem dX11_laysPairs_58 : decode cX11_laysPairs 58 = .ok (.aload_n 0, 1) := by decide +kernel
theorem dX11_laysPairs_59 : decode cX11_laysPairs 59 = .ok (.dup, 1) := by decide +kernel
theorem dX11_laysPairs_60 : decode cX11_laysPairs 60 = .ok (.getfield 261, 3) := by decide +kernel
theorem dX11_laysPairs_63 : decode cX11_laysPairs 63 = .ok (.iconst 1, 1) := by decide +kernel
theorem dX11_laysPairs_64 : decode cX11_laysPairs 64 = .ok (.iadd, 1) := by decide +kernel
theorem dX11_laysPairs_65 : decode cX11_laysPairs 65 = .ok (.putfield 261, 3) := by decide +kernel
theorem dX11_laysPairs_68 : decode cX11_laysPairs 68 = .ok (.iinc 2 1, 3) := by decide +kernel
theorem dX11_laysPairs_71 : decode cX11_laysPairs 71 = .ok (.goto (-49), 3) := by decide +kernel
theorem dX11_laysPairs_74 : decode cX11_laysPairs 74 = .ok (.aload_n 0, 1) := by decide +kernel
theorem dX11_laysPairs_75 : decode cX11_laysPairs 75 = .ok (.getfield 258, 3) := by decide +kernel
theorem dX11_laysPairs_78 : decode cX11_laysPairs 78 = .ok (.istore_n 2, 1) := by decide +kernel
theorem dX11_laysPairs_79 : decode cX11_laysPairs 79 = .ok (.aload_n 0, 1) := by decide +kernel
theorem dX11_laysPairs_80 : decode cX11_laysPairs 80 = .ok (.getfield 261, 3) := by decide +kernel
theorem dX11_laysPairs_83 : decode cX11_laysPairs 83 = .ok (.bipush 14, 2) := by decide +kernel
theorem dX11_laysPairs_85 : decode cX11_laysPairs 85 = .ok (.if_icmp .le 41, 3) := by decide +kernel
theorem dX11_laysPairs_88 : decode cX11_laysPairs 88 = .ok (.iconst 0, 1) := by decide +kernel
theorem dX11_laysPairs_89 : decode cX11_laysPairs 89 = .ok (.istore_n 3, 1) := by decide +kernel
theorem dX11_laysPairs_90 : decode cX11_laysPairs 90 = .ok (.iload_n 3, 1) := by decide +kernel
theorem dX11_laysPairs_91 : decode cX11_laysPairs 91 = .ok (.aload_n 0, 1) := by decide +kernel
theorem dX11_laysPairs_92 : decode cX11_laysPairs 92 = .ok (.getfield 261, 3) := by decide +kernel
theorem dX11_laysPairs_95 : decode cX11_laysPairs 95 = .ok (.if_icmp .ge 28, 3) := by decide +kernel
theorem dX11_laysPairs_98 : decode cX11_laysPairs 98 = .ok (.aload_n 0, 1) := by decide +kernel
theorem dX11_laysPairs_99 : decode cX11_laysPairs 99 = .ok (.aload_n 0, 1) := by decide +kernel
theorem dX11_laysPairs_100 : decode cX11_laysPairs 100 = .ok (.getfield 53, 3) := by decide +kernel
theorem dX11_laysPairs_103 : decode cX11_laysPairs 103 = .ok (.iload_n 3, 1) := by decide +kernel
theorem dX11_laysPairs_104 : decode cX11_laysPairs 104 = .ok (.iaload, 1) := by decide +kernel
theorem dX11_laysPairs_105 : decode cX11_laysPairs 105 = .ok (.aload_n 0, 1) := by decide +kernel
theorem dX11_laysPairs_106 : decode cX11_laysPairs 106 = .ok (.getfield 53, 3) := by decide +kernel
theorem dX11_laysPairs_109 : decode cX11_laysPairs 109 = .ok (.iload_n 3, 1) := by decide +kernel
theorem dX11_laysPairs_110 : decode cX11_laysPairs 110 = .ok (.iconst 1, 1) := by decide +kernel
theorem dX11_laysPairs_111 : decode cX11_laysPairs 111 = .ok (.iadd, 1) := by decide +kernel
theorem dX11_laysPairs_112 : decode cX11_laysPairs 112 = .ok (.iaload, 1) := by decide +kernel
theorem dX11_laysPairs_113 : decode cX11_laysPairs 113 = .ok (.iload_n 1, 1) := by decide +kernel
theorem dX11_laysPairs_114 : decode cX11_laysPairs 114 = .ok (.invokevirtual 267, 3) := by decide +kernel
theorem dX11_laysPairs_117 : decode cX11_laysPairs 117 = .ok (.iinc 3 2, 3) := by decide +kernel
theorem dX11_laysPairs_120 : decode cX11_laysPairs 120 = .ok (.goto (-30), 3) := by decide +kernel
theorem dX11_laysPairs_123 : decode cX11_laysPairs 123 = .ok (.goto 8, 3) := by decide +kernel
theorem dX11_laysPairs_126 : decode cX11_laysPairs 126 = .ok (.aload_n 0, 1) := by decide +kernel
theorem dX11_laysPairs_127 : decode cX11_laysPairs 127 = .ok (.iload_n 1, 1) := by decide +kernel
theorem dX11_laysPairs_128 : decode cX11_laysPairs 128 = .ok (.invokevirtual 271, 3) := by decide +kernel
theorem dX11_laysPairs_131 : decode cX11_laysPairs 131 = .ok (.aload_n 0, 1) := by decide +kernel
theorem dX11_laysPairs_132 : decode cX11_laysPairs 132 = .ok (.getfield 50, 3) := by decide +kernel
theorem dX11_laysPairs_135 : decode cX11_laysPairs 135 = .ok (.iload_n 1, 1) := by decide +kernel
theorem dX11_laysPairs_136 : decode cX11_laysPairs 136 = .ok (.iconst (-1), 1) := by decide +kernel
theorem dX11_laysPairs_137 : decode cX11_laysPairs 137 = .ok (.iastore, 1) := by decide +kernel
theorem dX11_laysPairs_138 : decode cX11_laysPairs 138 = .ok (.iload_n 2, 1) := by decide +kernel
theorem dX11_laysPairs_139 : decode cX11_laysPairs 139 = .ok (.istore_n 3, 1) := by decide +kernel
theorem dX11_laysPairs_140 : decode cX11_laysPairs 140 = .ok (.iload_n 3, 1) := by decide +kernel
theorem dX11_laysPairs_141 : decode cX11_laysPairs 141 = .ok (.aload_n 0, 1) := by decide +kernel
theorem dX11_laysPairs_142 : decode cX11_laysPairs 142 = .ok (.getfield 258, 3) := by decide +kernel
theorem dX11_laysPairs_145 : decode cX11_laysPairs 145 = .ok (.if_icmp .ge 53, 3) := by decide +kernel
theorem dX11_laysPairs_148 : decode cX11_laysPairs 148 = .ok (.aload_n 0, 1) := by decide +kernel
theorem dX11_laysPairs_149 : decode cX11_laysPairs 149 = .ok (.getfield 50, 3) := by decide +kernel
theorem dX11_laysPairs_152 : decode cX11_laysPairs 152 = .ok (.iload_n 1, 1) := by decide +kernel
theorem dX11_laysPairs_153 : decode cX11_laysPairs 153 = .ok (.aload_n 0, 1) := by decide +kernel
theorem dX11_laysPairs_154 : decode cX11_laysPairs 154 = .ok (.getfield 50, 3) := by decide +kernel
theorem dX11_laysPairs_157 : decode cX11_laysPairs 157 = .ok (.iload_n 1, 1) := by decide +kernel
theorem dX11_laysPairs_158 : decode cX11_laysPairs 158 = .ok (.iaload, 1) := by decide +kernel
theorem dX11_laysPairs_159 : decode cX11_laysPairs 159 = .ok (.iconst (-1), 1) := by decide +kernel
theorem dX11_laysPairs_160 : decode cX11_laysPairs 160 = .ok (.if_icmp .eq 21, 3) := by decide +kernel
theorem dX11_laysPairs_163 : decode cX11_laysPairs 163 = .ok (.aload_n 0, 1) := by decide +kernel
theorem dX11_laysPairs_164 : decode cX11_laysPairs 164 = .ok (.iload_n 3, 1) := by decide +kernel
theorem dX11_laysPairs_165 : decode cX11_laysPairs 165 = .ok (.invokevirtual 274, 3) := by decide +kernel
theorem dX11_laysPairs_168 : decode cX11_laysPairs 168 = .ok (.aload_n 0, 1) := by decide +kernel
theorem dX11_laysPairs_169 : decode cX11_laysPairs 169 = .ok (.aload_n 0, 1) := by decide +kernel
theorem dX11_laysPairs_170 : decode cX11_laysPairs 170 = .ok (.getfield 50, 3) := by decide +kernel
theorem dX11_laysPairs_173 : decode cX11_laysPairs 173 = .ok (.iload_n 1, 1) := by decide +kernel
theorem dX11_laysPairs_174 : decode cX11_laysPairs 174 = .ok (.iaload, 1) := by decide +kernel
theorem dX11_laysPairs_175 : decode cX11_laysPairs 175 = .ok (.invokevirtual 274, 3) := by decide +kernel
theorem dX11_laysPairs_178 : decode cX11_laysPairs 178 = .ok (.if_icmp .le 7, 3) := by decide +kernel
theorem dX11_laysPairs_181 : decode cX11_laysPairs 181 = .ok (.iload_n 3, 1) := by decide +kernel
theorem dX11_laysPairs_182 : decode cX11_laysPairs 182 = .ok (.goto 9, 3) := by decide +kernel
theorem dX11_laysPairs_185 : decode cX11_laysPairs 185 = .ok (.aload_n 0, 1) := by decide +kernel
theorem dX11_laysPairs_186 : decode cX11_laysPairs 186 = .ok (.getfield 50, 3) := by decide +kernel
theorem dX11_laysPairs_189 : decode cX11_laysPairs 189 = .ok (.iload_n 1, 1) := by decide +kernel
theorem dX11_laysPairs_190 : decode cX11_laysPairs 190 = .ok (.iaload, 1) := by decide +kernel
theorem dX11_laysPairs_191 : decode cX11_laysPairs 191 = .ok (.iastore, 1) := by decide +kernel
theorem dX11_laysPairs_192 : decode cX11_laysPairs 192 = .ok (.iinc 3 1, 3) := by decide +kernel
theorem dX11_laysPairs_195 : decode cX11_laysPairs 195 = .ok (.goto (-55), 3) := by decide +kernel
theorem dX11_laysPairs_198 : decode cX11_laysPairs 198 = .ok (.iinc 1 1, 3) := by decide +kernel
theorem dX11_laysPairs_201 : decode cX11_laysPairs 201 = .ok (.goto (-194), 3) := by decide +kernel
theorem dX11_laysPairs_204 : decode cX11_laysPairs 204 = .ok (.return_, 1) := by decide +kernel
theorem dX11_pairs_0 : decode cX11_pairs 0 = .ok (.aload_n 0, 1) := by decide +kernel
theorem dX11_pairs_1 : decode cX11_pairs 1 = .ok (.getfield 41, 3) := by decide +kernel
theorem dX11_pairs_4 : decode cX11_pairs 4 = .ok (.aload_n 0, 1) := by decide +kernel
theorem dX11_pairs_5 : decode cX11_pairs 5 = .ok (.getfield 258, 3) := by decide +kernel
theorem dX11_pairs_8 : decode cX11_pairs 8 = .ok (.iload_n 1, 1) := by decide +kernel
theorem dX11_pairs_9 : decode cX11_pairs 9 = .ok (.iastore, 1) := by decide +kernel
theorem dX11_pairs_10 : decode cX11_pairs 10 = .ok (.aload_n 0, 1) := by decide +kernel
theorem dX11_pairs_11 : decode cX11_pairs 11 = .ok (.getfield 44, 3) := by decide +kernel
theorem dX11_pairs_14 : decode cX11_pairs 14 = .ok (.aload_n 0, 1) := by decide +kernel
theorem dX11_pairs_15 : decode cX11_pairs 15 = .ok (.getfield 258, 3) := by decide +kernel
theorem dX11_pairs_18 : decode cX11_pairs 18 = .ok (.iload_n 2, 1) := by decide +kernel
theorem dX11_pairs_19 : decode cX11_pairs 19 = .ok (.iastore, 1) := by decide +kernel
theorem dX11_pairs_20 : decode cX11_pairs 20 = .ok (.aload_n 0, 1) := by decide +kernel
theorem dX11_pairs_21 : decode cX11_pairs 21 = .ok (.getfield 47, 3) := by decide +kernel
theorem dX11_pairs_24 : decode cX11_pairs 24 = .ok (.aload_n 0, 1) := by decide +kernel
theorem dX11_pairs_25 : decode cX11_pairs 25 = .ok (.getfield 258, 3) := by decide +kernel
theorem dX11_pairs_28 : decode cX11_pairs 28 = .ok (.iload_n 3, 1) := by decide +kernel
theorem dX11_pairs_29 : decode cX11_pairs 29 = .ok (.iastore, 1) := by decide +kernel
theorem dX11_pairs_30 : decode cX11_pairs 30 = .ok (.aload_n 0, 1) := by decide +kernel
theorem dX11_pairs_31 : decode cX11_pairs 31 = .ok (.dup, 1) := by decide +kernel
theorem dX11_pairs_32 : decode cX11_pairs 32 = .ok (.getfield 258, 3) := by decide +kernel
theorem dX11_pairs_35 : decode cX11_pairs 35 = .ok (.iconst 1, 1) := by decide +kernel
theorem dX11_pairs_36 : decode cX11_pairs 36 = .ok (.iadd, 1) := by decide +kernel
theorem dX11_pairs_37 : decode cX11_pairs 37 = .ok (.putfield 258, 3) := by decide +kernel
theorem dX11_pairs_40 : decode cX11_pairs 40 = .ok (.return_, 1) := by decide +kernel
theorem dX11_farOf_0 : decode cX11_farOf 0 = .ok (.aload_n 0, 1) := by decide +kernel
theorem dX11_farOf_1 : decode cX11_farOf 1 = .ok (.aload_n 0, 1) := by decide +kernel
theorem dX11_farOf_2 : decode cX11_farOf 2 = .ok (.getfield 41, 3) := by decide +kernel
theorem dX11_farOf_5 : decode cX11_farOf 5 = .ok (.iload_n 1, 1) := by decide +kernel
theorem dX11_farOf_6 : decode cX11_farOf 6 = .ok (.iaload, 1) := by decide +kernel
theorem dX11_farOf_7 : decode cX11_farOf 7 = .ok (.aload_n 0, 1) := by decide +kernel
theorem dX11_farOf_8 : decode cX11_farOf 8 = .ok (.getfield 44, 3) := by decide +kernel
theorem dX11_farOf_11 : decode cX11_farOf 11 = .ok (.iload_n 1, 1) := by decide +kernel
theorem dX11_farOf_12 : decode cX11_farOf 12 = .ok (.iaload, 1) := by decide +kernel
theorem dX11_farOf_13 : decode cX11_farOf 13 = .ok (.invokevirtual 277, 3) := by decide +kernel
theorem dX11_farOf_16 : decode cX11_farOf 16 = .ok (.ireturn, 1) := by decide +kernel
theorem dX11_lowest_0 : decode cX11_lowest 0 = .ok (.iconst 0, 1) := by decide +kernel
theorem dX11_lowest_1 : decode cX11_lowest 1 = .ok (.istore_n 1, 1) := by decide +kernel
theorem dX11_lowest_2 : decode cX11_lowest 2 = .ok (.iload_n 0, 1) := by decide +kernel
theorem dX11_lowest_3 : decode cX11_lowest 3 = .ok (.iload_n 1, 1) := by decide +kernel
theorem dX11_lowest_4 : decode cX11_lowest 4 = .ok (.ishr, 1) := by decide +kernel
theorem dX11_lowest_5 : decode cX11_lowest 5 = .ok (.iconst 1, 1) := by decide +kernel
theorem dX11_lowest_6 : decode cX11_lowest 6 = .ok (.iand, 1) := by decide +kernel
theorem dX11_lowest_7 : decode cX11_lowest 7 = .ok (.ifCond .ne 9, 3) := by decide +kernel
theorem dX11_lowest_10 : decode cX11_lowest 10 = .ok (.iinc 1 1, 3) := by decide +kernel
theorem dX11_lowest_13 : decode cX11_lowest 13 = .ok (.goto (-11), 3) := by decide +kernel
theorem dX11_lowest_16 : decode cX11_lowest 16 = .ok (.iload_n 1, 1) := by decide +kernel
theorem dX11_lowest_17 : decode cX11_lowest 17 = .ok (.ireturn, 1) := by decide +kernel
theorem dX11_pairsBest_0 : decode cX11_pairsBest 0 = .ok (.aload_n 0, 1) := by decide +kernel
theorem dX11_pairsBest_1 : decode cX11_pairsBest 1 = .ok (.getfield 56, 3) := by decide +kernel
theorem dX11_pairsBest_4 : decode cX11_pairsBest 4 = .ok (.iconst 0, 1) := by decide +kernel
theorem dX11_pairsBest_5 : decode cX11_pairsBest 5 = .ok (.iconst 0, 1) := by decide +kernel
theorem dX11_pairsBest_6 : decode cX11_pairsBest 6 = .ok (.iastore, 1) := by decide +kernel
theorem dX11_pairsBest_7 : decode cX11_pairsBest 7 = .ok (.iconst 1, 1) := by decide +kernel
theorem dX11_pairsBest_8 : decode cX11_pairsBest 8 = .ok (.istore_n 2, 1) := by decide +kernel
theorem dX11_pairsBest_9 : decode cX11_pairsBest 9 = .ok (.iload_n 2, 1) := by decide +kernel
theorem dX11_pairsBest_10 : decode cX11_pairsBest 10 = .ok (.iconst 1, 1) := by decide +kernel
theorem dX11_pairsBest_11 : decode cX11_pairsBest 11 = .ok (.aload_n 0, 1) := by decide +kernel
theorem dX11_pairsBest_12 : decode cX11_pairsBest 12 = .ok (.getfield 261, 3) := by decide +kernel
theorem dX11_pairsBest_15 : decode cX11_pairsBest 15 = .ok (.ishl, 1) := by decide +kernel
theorem dX11_pairsBest_16 : decode cX11_pairsBest 16 = .ok (.if_icmp .ge 145, 3) := by decide +kernel
theorem dX11_pairsBest_19 : decode cX11_pairsBest 19 = .ok (.iload_n 2, 1) := by decide +kernel
theorem dX11_pairsBest_20 : decode cX11_pairsBest 20 = .ok (.invokestatic 280, 3) := by decide +kernel
theorem dX11_pairsBest_23 : decode cX11_pairsBest 23 = .ok (.istore_n 3, 1) := by decide +kernel
theorem dX11_pairsBest_24 : decode cX11_pairsBest 24 = .ok (.aload_n 0, 1) := by decide +kernel
theorem dX11_pairsBest_25 : decode cX11_pairsBest 25 = .ok (.getfield 56, 3) := by decide +kernel
theorem dX11_pairsBest_28 : decode cX11_pairsBest 28 = .ok (.iload_n 2, 1) := by decide +kernel
theorem dX11_pairsBest_29 : decode cX11_pairsBest 29 = .ok (.ldc_w 283, 3) := by decide +kernel
theorem dX11_pairsBest_32 : decode cX11_pairsBest 32 = .ok (.iastore, 1) := by decide +kernel
theorem dX11_pairsBest_33 : decode cX11_pairsBest 33 = .ok (.iload_n 3, 1) := by decide +kernel
theorem dX11_pairsBest_34 : decode cX11_pairsBest 34 = .ok (.iconst 1, 1) := by decide +kernel
theorem dX11_pairsBest_35 : decode cX11_pairsBest 35 = .ok (.iadd, 1) := by decide +kernel
theorem dX11_pairsBest_36 : decode cX11_pairsBest 36 = .ok (.istore 4, 2) := by decide +kernel
theorem dX11_pairsBest_38 : decode cX11_pairsBest 38 = .ok (.iload 4, 2) := by decide +kernel
theorem dX11_pairsBest_40 : decode cX11_pairsBest 40 = .ok (.aload_n 0, 1) := by decide +kernel
theorem dX11_pairsBest_41 : decode cX11_pairsBest 41 = .ok (.getfield 261, 3) := by decide +kernel
theorem dX11_pairsBest_44 : decode cX11_pairsBest 44 = .ok (.if_icmp .ge 111, 3) := by decide +kernel
theorem dX11_pairsBest_47 : decode cX11_pairsBest 47 = .ok (.iload_n 2, 1) := by decide +kernel
theorem dX11_pairsBest_48 : decode cX11_pairsBest 48 = .ok (.iconst 1, 1) := by decide +kernel
theorem dX11_pairsBest_49 : decode cX11_pairsBest 49 = .ok (.iload_n 3, 1) := by decide +kernel
theorem dX11_pairsBest_50 : decode cX11_pairsBest 50 = .ok (.ishl, 1) := by decide +kernel
theorem dX11_pairsBest_51 : decode cX11_pairsBest 51 = .ok (.iconst 1, 1) := by decide +kernel
theorem dX11_pairsBest_52 : decode cX11_pairsBest 52 = .ok (.iload 4, 2) := by decide +kernel
theorem dX11_pairsBest_54 : decode cX11_pairsBest 54 = .ok (.ishl, 1) := by decide +kernel
theorem dX11_pairsBest_55 : decode cX11_pairsBest 55 = .ok (.ior, 1) := by decide +kernel
theorem dX11_pairsBest_56 : decode cX11_pairsBest 56 = .ok (.iconst (-1), 1) := by decide +kernel
theorem dX11_pairsBest_57 : decode cX11_pairsBest 57 = .ok (.ixor, 1) := by decide +kernel
theorem dX11_pairsBest_58 : decode cX11_pairsBest 58 = .ok (.iand, 1) := by decide +kernel
theorem dX11_pairsBest_59 : decode cX11_pairsBest 59 = .ok (.istore 5, 2) := by decide +kernel
theorem dX11_pairsBest_61 : decode cX11_pairsBest 61 = .ok (.iload_n 2, 1) := by decide +kernel
theorem dX11_pairsBest_62 : decode cX11_pairsBest 62 = .ok (.iload 4, 2) := by decide +kernel
theorem dX11_pairsBest_64 : decode cX11_pairsBest 64 = .ok (.ishr, 1) := by decide +kernel
theorem dX11_pairsBest_65 : decode cX11_pairsBest 65 = .ok (.iconst 1, 1) := by decide +kernel
theorem dX11_pairsBest_66 : decode cX11_pairsBest 66 = .ok (.iand, 1) := by decide +kernel
