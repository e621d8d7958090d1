theorem dX10_init_0 : decode cX10_init 0 = .ok (.aload_n 0, 1) := by decide +kernel
theorem dX10_init_1 : decode cX10_init 1 = .ok (.invokespecial 3, 3) := by decide +kernel
theorem dX10_init_4 : decode cX10_init 4 = .ok (.aload_n 0, 1) := by decide +kernel
theorem dX10_init_5 : decode cX10_init 5 = .ok (.new 9, 3) := by decide +kernel
theorem dX10_init_8 : decode cX10_init 8 = .ok (.dup, 1) := by decide +kernel
theorem dX10_init_9 : decode cX10_init 9 = .ok (.invokespecial 11, 3) := by decide +kernel
theorem dX10_init_12 : decode cX10_init 12 = .ok (.putfield 12, 3) := by decide +kernel
theorem dX10_init_15 : decode cX10_init 15 = .ok (.aload_n 0, 1) := by decide +kernel
theorem dX10_init_16 : decode cX10_init 16 = .ok (.new 16, 3) := by decide +kernel
theorem dX10_init_19 : decode cX10_init 19 = .ok (.dup, 1) := by decide +kernel
theorem dX10_init_20 : decode cX10_init 20 = .ok (.invokespecial 18, 3) := by decide +kernel
theorem dX10_init_23 : decode cX10_init 23 = .ok (.putfield 19, 3) := by decide +kernel
theorem dX10_init_26 : decode cX10_init 26 = .ok (.aload_n 0, 1) := by decide +kernel
theorem dX10_init_27 : decode cX10_init 27 = .ok (.new 23, 3) := by decide +kernel
theorem dX10_init_30 : decode cX10_init 30 = .ok (.dup, 1) := by decide +kernel
theorem dX10_init_31 : decode cX10_init 31 = .ok (.aload_n 0, 1) := by decide +kernel
theorem dX10_init_32 : decode cX10_init 32 = .ok (.getfield 19, 3) := by decide +kernel
theorem dX10_init_35 : decode cX10_init 35 = .ok (.invokespecial 25, 3) := by decide +kernel
theorem dX10_init_38 : decode cX10_init 38 = .ok (.putfield 28, 3) := by decide +kernel
theorem dX10_init_41 : decode cX10_init 41 = .ok (.aload_n 0, 1) := by decide +kernel
theorem dX10_init_42 : decode cX10_init 42 = .ok (.new 32, 3) := by decide +kernel
theorem dX10_init_45 : decode cX10_init 45 = .ok (.dup, 1) := by decide +kernel
theorem dX10_init_46 : decode cX10_init 46 = .ok (.aload_n 0, 1) := by decide +kernel
theorem dX10_init_47 : decode cX10_init 47 = .ok (.getfield 28, 3) := by decide +kernel
theorem dX10_init_50 : decode cX10_init 50 = .ok (.invokespecial 34, 3) := by decide +kernel
theorem dX10_init_53 : decode cX10_init 53 = .ok (.putfield 37, 3) := by decide +kernel
theorem dX10_init_56 : decode cX10_init 56 = .ok (.aload_n 0, 1) := by decide +kernel
theorem dX10_init_57 : decode cX10_init 57 = .ok (.new 41, 3) := by decide +kernel
theorem dX10_init_60 : decode cX10_init 60 = .ok (.dup, 1) := by decide +kernel
theorem dX10_init_61 : decode cX10_init 61 = .ok (.aload_n 0, 1) := by decide +kernel
theorem dX10_init_62 : decode cX10_init 62 = .ok (.getfield 19, 3) := by decide +kernel
theorem dX10_init_65 : decode cX10_init 65 = .ok (.aload_n 0, 1) := by decide +kernel
theorem dX10_init_66 : decode cX10_init 66 = .ok (.getfield 28, 3) := by decide +kernel
theorem dX10_init_69 : decode cX10_init 69 = .ok (.aload_n 0, 1) := by decide +kernel
theorem dX10_init_70 : decode cX10_init 70 = .ok (.getfield 37, 3) := by decide +kernel
theorem dX10_init_73 : decode cX10_init 73 = .ok (.invokespecial 43, 3) := by decide +kernel
theorem dX10_init_76 : decode cX10_init 76 = .ok (.putfield 46, 3) := by decide +kernel
theorem dX10_init_79 : decode cX10_init 79 = .ok (.aload_n 0, 1) := by decide +kernel
theorem dX10_init_80 : decode cX10_init 80 = .ok (.new 50, 3) := by decide +kernel
theorem dX10_init_83 : decode cX10_init 83 = .ok (.dup, 1) := by decide +kernel
theorem dX10_init_84 : decode cX10_init 84 = .ok (.aload_n 0, 1) := by decide +kernel
theorem dX10_init_85 : decode cX10_init 85 = .ok (.getfield 19, 3) := by decide +kernel
theorem dX10_init_88 : decode cX10_init 88 = .ok (.aload_n 0, 1) := by decide +kernel
theorem dX10_init_89 : decode cX10_init 89 = .ok (.getfield 28, 3) := by decide +kernel
theorem dX10_init_92 : decode cX10_init 92 = .ok (.aload_n 0, 1) := by decide +kernel
theorem dX10_init_93 : decode cX10_init 93 = .ok (.getfield 46, 3) := by decide +kernel
theorem dX10_init_96 : decode cX10_init 96 = .ok (.invokespecial 52, 3) := by decide +kernel
theorem dX10_init_99 : decode cX10_init 99 = .ok (.putfield 55, 3) := by decide +kernel
theorem dX10_init_102 : decode cX10_init 102 = .ok (.aload_n 0, 1) := by decide +kernel
theorem dX10_init_103 : decode cX10_init 103 = .ok (.new 59, 3) := by decide +kernel
theorem dX10_init_106 : decode cX10_init 106 = .ok (.dup, 1) := by decide +kernel
theorem dX10_init_107 : decode cX10_init 107 = .ok (.aload_n 0, 1) := by decide +kernel
theorem dX10_init_108 : decode cX10_init 108 = .ok (.getfield 19, 3) := by decide +kernel
theorem dX10_init_111 : decode cX10_init 111 = .ok (.aload_n 0, 1) := by decide +kernel
theorem dX10_init_112 : decode cX10_init 112 = .ok (.getfield 28, 3) := by decide +kernel
theorem dX10_init_115 : decode cX10_init 115 = .ok (.aload_n 0, 1) := by decide +kernel
theorem dX10_init_116 : decode cX10_init 116 = .ok (.getfield 55, 3) := by decide +kernel
theorem dX10_init_119 : decode cX10_init 119 = .ok (.invokespecial 61, 3) := by decide +kernel
theorem dX10_init_122 : decode cX10_init 122 = .ok (.putfield 64, 3) := by decide +kernel
theorem dX10_init_125 : decode cX10_init 125 = .ok (.aload_n 0, 1) := by decide +kernel
theorem dX10_init_126 : decode cX10_init 126 = .ok (.new 68, 3) := by decide +kernel
theorem dX10_init_129 : decode cX10_init 129 = .ok (.dup, 1) := by decide +kernel
theorem dX10_init_130 : decode cX10_init 130 = .ok (.aload_n 0, 1) := by decide +kernel
theorem dX10_init_131 : decode cX10_init 131 = .ok (.getfield 19, 3) := by decide +kernel
theorem dX10_init_134 : decode cX10_init 134 = .ok (.aload_n 0, 1) := by decide +kernel
theorem dX10_init_135 : decode cX10_init 135 = .ok (.getfield 28, 3) := by decide +kernel
theorem dX10_init_138 : decode cX10_init 138 = .ok (.aload_n 0, 1) := by decide +kernel
theorem dX10_init_139 : decode cX10_init 139 = .ok (.getfield 55, 3) := by decide +kernel
theorem dX10_init_142 : decode cX10_init 142 = .ok (.invokespecial 70, 3) := by decide +kernel
theorem dX10_init_145 : decode cX10_init 145 = .ok (.putfield 71, 3) := by decide +kernel
theorem dX10_init_148 : decode cX10_init 148 = .ok (.aload_n 0, 1) := by decide +kernel
theorem dX10_init_149 : decode cX10_init 149 = .ok (.new 16, 3) := by decide +kernel
theorem dX10_init_152 : decode cX10_init 152 = .ok (.dup, 1) := by decide +kernel
theorem dX10_init_153 : decode cX10_init 153 = .ok (.invokespecial 18, 3) := by decide +kernel
theorem dX10_init_156 : decode cX10_init 156 = .ok (.putfield 75, 3) := by decide +kernel
theorem dX10_init_159 : decode cX10_init 159 = .ok (.aload_n 0, 1) := by decide +kernel
theorem dX10_init_160 : decode cX10_init 160 = .ok (.new 23, 3) := by decide +kernel
theorem dX10_init_163 : decode cX10_init 163 = .ok (.dup, 1) := by decide +kernel
theorem dX10_init_164 : decode cX10_init 164 = .ok (.aload_n 0, 1) := by decide +kernel
theorem dX10_init_165 : decode cX10_init 165 = .ok (.getfield 75, 3) := by decide +kernel
theorem dX10_init_168 : decode cX10_init 168 = .ok (.invokespecial 25, 3) := by decide +kernel
theorem dX10_init_171 : decode cX10_init 171 = .ok (.putfield 78, 3) := by decide +kernel
theorem dX10_init_174 : decode cX10_init 174 = .ok (.aload_n 0, 1) := by decide +kernel
theorem dX10_init_175 : decode cX10_init 175 = .ok (.new 59, 3) := by decide +kernel
theorem dX10_init_178 : decode cX10_init 178 = .ok (.dup, 1) := by decide +kernel
theorem dX10_init_179 : decode cX10_init 179 = .ok (.aload_n 0, 1) := by decide +kernel
theorem dX10_init_180 : decode cX10_init 180 = .ok (.getfield 19, 3) := by decide +kernel
theorem dX10_init_183 : decode cX10_init 183 = .ok (.aload_n 0, 1) := by decide +kernel
theorem dX10_init_184 : decode cX10_init 184 = .ok (.getfield 28, 3) := by decide +kernel
theorem dX10_init_187 : decode cX10_init 187 = .ok (.aload_n 0, 1) := by decide +kernel
theorem dX10_init_188 : decode cX10_init 188 = .ok (.getfield 55, 3) := by decide +kernel
theorem dX10_init_191 : decode cX10_init 191 = .ok (.invokespecial 61, 3) := by decide +kernel
theorem dX10_init_194 : decode cX10_init 194 = .ok (.putfield 81, 3) := by decide +kernel
theorem dX10_init_197 : decode cX10_init 197 = .ok (.aload_n 0, 1) := by decide +kernel
theorem dX10_init_198 : decode cX10_init 198 = .ok (.new 84, 3) := by decide +kernel
theorem dX10_init_201 : decode cX10_init 201 = .ok (.dup, 1) := by decide +kernel
theorem dX10_init_202 : decode cX10_init 202 = .ok (.aload_n 0, 1) := by decide +kernel
theorem dX10_init_203 : decode cX10_init 203 = .ok (.getfield 12, 3) := by decide +kernel
theorem dX10_init_206 : decode cX10_init 206 = .ok (.aload_n 0, 1) := by decide +kernel
theorem dX10_init_207 : decode cX10_init 207 = .ok (.getfield 75, 3) := by decide +kernel
theorem dX10_init_210 : decode cX10_init 210 = .ok (.invokespecial 86, 3) := by decide +kernel
theorem dX10_init_213 : decode cX10_init 213 = .ok (.putfield 89, 3) := by decide +kernel
theorem dX10_init_216 : decode cX10_init 216 = .ok (.aload_n 0, 1) := by decide +kernel
theorem dX10_init_217 : decode cX10_init 217 = .ok (.iconst 0, 1) := by decide +kernel
theorem dX10_init_218 : decode cX10_init 218 = .ok (.putfield 93, 3) := by decide +kernel
theorem dX10_init_221 : decode cX10_init 221 = .ok (.aload_n 0, 1) := by decide +kernel
theorem dX10_init_222 : decode cX10_init 222 = .ok (.iconst 0, 1) := by decide +kernel
theorem dX10_init_223 : decode cX10_init 223 = .ok (.putfield 97, 3) := by decide +kernel
theorem dX10_init_226 : decode cX10_init 226 = .ok (.return_, 1) := by decide +kernel
theorem dX10_feed_0 : decode cX10_feed 0 = .ok (.aload_n 0, 1) := by decide +kernel
theorem dX10_feed_1 : decode cX10_feed 1 = .ok (.getfield 12, 3) := by decide +kernel
theorem dX10_feed_4 : decode cX10_feed 4 = .ok (.invokevirtual 101, 3) := by decide +kernel
theorem dX10_feed_7 : decode cX10_feed 7 = .ok (.ifCond .ne 5, 3) := by decide +kernel
theorem dX10_feed_10 : decode cX10_feed 10 = .ok (.iconst (-1), 1) := by decide +kernel
theorem dX10_feed_11 : decode cX10_feed 11 = .ok (.ireturn, 1) := by decide +kernel
theorem dX10_feed_12 : decode cX10_feed 12 = .ok (.aload_n 0, 1) := by decide +kernel
theorem dX10_feed_13 : decode cX10_feed 13 = .ok (.getfield 12, 3) := by decide +kernel
theorem dX10_feed_16 : decode cX10_feed 16 = .ok (.iload_n 1, 1) := by decide +kernel
theorem dX10_feed_17 : decode cX10_feed 17 = .ok (.invokevirtual 105, 3) := by decide +kernel
theorem dX10_feed_20 : decode cX10_feed 20 = .ok (.aload_n 0, 1) := by decide +kernel
theorem dX10_feed_21 : decode cX10_feed 21 = .ok (.getfield 12, 3) := by decide +kernel
theorem dX10_feed_24 : decode cX10_feed 24 = .ok (.iload_n 2, 1) := by decide +kernel
theorem dX10_feed_25 : decode cX10_feed 25 = .ok (.invokevirtual 105, 3) := by decide +kernel
theorem dX10_feed_28 : decode cX10_feed 28 = .ok (.aload_n 0, 1) := by decide +kernel
theorem dX10_feed_29 : decode cX10_feed 29 = .ok (.getfield 12, 3) := by decide +kernel
theorem dX10_feed_32 : decode cX10_feed 32 = .ok (.iload_n 3, 1) := by decide +kernel
theorem dX10_feed_33 : decode cX10_feed 33 = .ok (.invokevirtual 105, 3) := by decide +kernel
theorem dX10_feed_36 : decode cX10_feed 36 = .ok (.aload_n 0, 1) := by decide +kernel
theorem dX10_feed_37 : decode cX10_feed 37 = .ok (.getfield 12, 3) := by decide +kernel
theorem dX10_feed_40 : decode cX10_feed 40 = .ok (.iload 4, 2) := by decide +kernel
theorem dX10_feed_42 : decode cX10_feed 42 = .ok (.invokevirtual 105, 3) := by decide +kernel
theorem dX10_feed_45 : decode cX10_feed 45 = .ok (.aload_n 0, 1) := by decide +kernel
theorem dX10_feed_46 : decode cX10_feed 46 = .ok (.getfield 12, 3) := by decide +kernel
theorem dX10_feed_49 : decode cX10_feed 49 = .ok (.iload 5, 2) := by decide +kernel
theorem dX10_feed_51 : decode cX10_feed 51 = .ok (.invokevirtual 105, 3) := by decide +kernel
theorem dX10_feed_54 : decode cX10_feed 54 = .ok (.aload_n 0, 1) := by decide +kernel
theorem dX10_feed_55 : decode cX10_feed 55 = .ok (.getfield 12, 3) := by decide +kernel
theorem dX10_feed_58 : decode cX10_feed 58 = .ok (.getfield 109, 3) := by decide +kernel
theorem dX10_feed_61 : decode cX10_feed 61 = .ok (.ireturn, 1) := by decide +kernel
theorem dX10_sheet_0 : decode cX10_sheet 0 = .ok (.iload_n 1, 1) := by decide +kernel
theorem dX10_sheet_1 : decode cX10_sheet 1 = .ok (.ifCond .lt 14, 3) := by decide +kernel
theorem dX10_sheet_4 : decode cX10_sheet 4 = .ok (.iload_n 1, 1) := by decide +kernel
theorem dX10_sheet_5 : decode cX10_sheet 5 = .ok (.aload_n 0, 1) := by decide +kernel
theorem dX10_sheet_6 : decode cX10_sheet 6 = .ok (.getfield 12, 3) := by decide +kernel
theorem dX10_sheet_9 : decode cX10_sheet 9 = .ok (.getfield 109, 3) := by decide +kernel
theorem dX10_sheet_12 : decode cX10_sheet 12 = .ok (.if_icmp .le 9, 3) := by decide +kernel
theorem dX10_sheet_15 : decode cX10_sheet 15 = .ok (.aload_n 0, 1) := by decide +kernel
theorem dX10_sheet_16 : decode cX10_sheet 16 = .ok (.iconst 2, 1) := by decide +kernel
theorem dX10_sheet_17 : decode cX10_sheet 17 = .ok (.invokevirtual 112, 3) := by decide +kernel
theorem dX10_sheet_20 : decode cX10_sheet 20 = .ok (.ireturn, 1) := by decide +kernel
theorem dX10_sheet_21 : decode cX10_sheet 21 = .ok (.aload_n 0, 1) := by decide +kernel
theorem dX10_sheet_22 : decode cX10_sheet 22 = .ok (.getfield 89, 3) := by decide +kernel
theorem dX10_sheet_25 : decode cX10_sheet 25 = .ok (.iload_n 1, 1) := by decide +kernel
theorem dX10_sheet_26 : decode cX10_sheet 26 = .ok (.invokevirtual 116, 3) := by decide +kernel
theorem dX10_sheet_29 : decode cX10_sheet 29 = .ok (.istore_n 2, 1) := by decide +kernel
theorem dX10_sheet_30 : decode cX10_sheet 30 = .ok (.aload_n 0, 1) := by decide +kernel
theorem dX10_sheet_31 : decode cX10_sheet 31 = .ok (.getfield 12, 3) := by decide +kernel
theorem dX10_sheet_34 : decode cX10_sheet 34 = .ok (.iconst 0, 1) := by decide +kernel
theorem dX10_sheet_35 : decode cX10_sheet 35 = .ok (.putfield 109, 3) := by decide +kernel
theorem dX10_sheet_38 : decode cX10_sheet 38 = .ok (.iload_n 2, 1) := by decide +kernel
theorem dX10_sheet_39 : decode cX10_sheet 39 = .ok (.ifCond .ne 9, 3) := by decide +kernel
theorem dX10_sheet_42 : decode cX10_sheet 42 = .ok (.aload_n 0, 1) := by decide +kernel
theorem dX10_sheet_43 : decode cX10_sheet 43 = .ok (.iconst 4, 1) := by decide +kernel
theorem dX10_sheet_44 : decode cX10_sheet 44 = .ok (.invokevirtual 112, 3) := by decide +kernel
theorem dX10_sheet_47 : decode cX10_sheet 47 = .ok (.ireturn, 1) := by decide +kernel
theorem dX10_sheet_48 : decode cX10_sheet 48 = .ok (.aload_n 0, 1) := by decide +kernel
theorem dX10_sheet_49 : decode cX10_sheet 49 = .ok (.getfield 19, 3) := by decide +kernel
theorem dX10_sheet_52 : decode cX10_sheet 52 = .ok (.aload_n 0, 1) := by decide +kernel
theorem dX10_sheet_53 : decode cX10_sheet 53 = .ok (.getfield 75, 3) := by decide +kernel
theorem dX10_sheet_56 : decode cX10_sheet 56 = .ok (.invokevirtual 120, 3) := by decide +kernel
theorem dX10_sheet_59 : decode cX10_sheet 59 = .ok (.aload_n 0, 1) := by decide +kernel
theorem dX10_sheet_60 : decode cX10_sheet 60 = .ok (.iconst 1, 1) := by decide +kernel
theorem dX10_sheet_61 : decode cX10_sheet 61 = .ok (.putfield 93, 3) := by decide +kernel
theorem dX10_sheet_64 : decode cX10_sheet 64 = .ok (.aload_n 0, 1) := by decide +kernel
theorem dX10_sheet_65 : decode cX10_sheet 65 = .ok (.getfield 71, 3) := by decide +kernel
theorem dX10_sheet_68 : decode cX10_sheet 68 = .ok (.invokevirtual 123, 3) := by decide +kernel
theorem dX10_sheet_71 : decode cX10_sheet 71 = .ok (.aload_n 0, 1) := by decide +kernel
theorem dX10_sheet_72 : decode cX10_sheet 72 = .ok (.invokevirtual 126, 3) := by decide +kernel
theorem dX10_sheet_75 : decode cX10_sheet 75 = .ok (.aload_n 0, 1) := by decide +kernel
theorem dX10_sheet_76 : decode cX10_sheet 76 = .ok (.aload_n 0, 1) := by decide +kernel
theorem dX10_sheet_77 : decode cX10_sheet 77 = .ok (.getfield 19, 3) := by decide +kernel
theorem dX10_sheet_80 : decode cX10_sheet 80 = .ok (.getfield 129, 3) := by decide +kernel
theorem dX10_sheet_83 : decode cX10_sheet 83 = .ok (.invokevirtual 132, 3) := by decide +kernel
theorem dX10_sheet_86 : decode cX10_sheet 86 = .ok (.ireturn, 1) := by decide +kernel
theorem dX10_fault_0 : decode cX10_fault 0 = .ok (.aload_n 0, 1) := by decide +kernel
theorem dX10_fault_1 : decode cX10_fault 1 = .ok (.getfield 89, 3) := by decide +kernel
theorem dX10_fault_4 : decode cX10_fault 4 = .ok (.getfield 135, 3) := by decide +kernel
theorem dX10_fault_7 : decode cX10_fault 7 = .ok (.ireturn, 1) := by decide +kernel
theorem dX10_where_0 : decode cX10_where 0 = .ok (.aload_n 0, 1) := by decide +kernel
theorem dX10_where_1 : decode cX10_where 1 = .ok (.getfield 97, 3) := by decide +kernel
theorem dX10_where_4 : decode cX10_where 4 = .ok (.iconst 4, 1) := by decide +kernel
theorem dX10_where_5 : decode cX10_where 5 = .ok (.if_icmp .ne 13, 3) := by decide +kernel
theorem dX10_where_8 : decode cX10_where 8 = .ok (.aload_n 0, 1) := by decide +kernel
theorem dX10_where_9 : decode cX10_where 9 = .ok (.getfield 89, 3) := by decide +kernel
theorem dX10_where_12 : decode cX10_where 12 = .ok (.getfield 138, 3) := by decide +kernel
theorem dX10_where_15 : decode cX10_where 15 = .ok (.goto 4, 3) := by decide +kernel
theorem dX10_where_18 : decode cX10_where 18 = .ok (.iconst (-1), 1) := by decide +kernel
theorem dX10_where_19 : decode cX10_where 19 = .ok (.ireturn, 1) := by decide +kernel
theorem dX10_about_0 : decode cX10_about 0 = .ok (.aload_n 0, 1) := by decide +kernel
theorem dX10_about_1 : decode cX10_about 1 = .ok (.getfield 93, 3) := by decide +kernel
theorem dX10_about_4 : decode cX10_about 4 = .ok (.ifCond .ne 9, 3) := by decide +kernel
theorem dX10_about_7 : decode cX10_about 7 = .ok (.aload_n 0, 1) := by decide +kernel
theorem dX10_about_8 : decode cX10_about 8 = .ok (.iconst 1, 1) := by decide +kernel
theorem dX10_about_9 : decode cX10_about 9 = .ok (.invokevirtual 112, 3) := by decide +kernel
theorem dX10_about_12 : decode cX10_about 12 = .ok (.ireturn, 1) := by decide +kernel
theorem dX10_about_13 : decode cX10_about 13 = .ok (.iload_n 1, 1) := by decide +kernel
theorem dX10_about_14 : decode cX10_about 14 = .ok (.tableswitch 190 0 10 #[58, 70, 82, 94, 106, 118, 130, 142, 154, 166, 178], 58) := by decide +kernel
theorem dX10_about_72 : decode cX10_about 72 = .ok (.aload_n 0, 1) := by decide +kernel
theorem dX10_about_73 : decode cX10_about 73 = .ok (.aload_n 0, 1) := by decide +kernel
theorem dX10_about_74 : decode cX10_about 74 = .ok (.getfield 19, 3) := by decide +kernel
theorem dX10_about_77 : decode cX10_about 77 = .ok (.getfield 141, 3) := by decide +kernel
theorem dX10_about_80 : decode cX10_about 80 = .ok (.invokevirtual 132, 3) := by decide +kernel
theorem dX10_about_83 : decode cX10_about 83 = .ok (.ireturn, 1) := by decide +kernel
theorem dX10_about_84 : decode cX10_about 84 = .ok (.aload_n 0, 1) := by decide +kernel
theorem dX10_about_85 : decode cX10_about 85 = .ok (.aload_n 0, 1) := by decide +kernel
theorem dX10_about_86 : decode cX10_about 86 = .ok (.getfield 19, 3) := by decide +kernel
theorem dX10_about_89 : decode cX10_about 89 = .ok (.getfield 144, 3) := by decide +kernel
theorem dX10_about_92 : decode cX10_about 92 = .ok (.invokevirtual 132, 3) := by decide +kernel
theorem dX10_about_95 : decode cX10_about 95 = .ok (.ireturn, 1) := by decide +kernel
theorem dX10_about_96 : decode cX10_about 96 = .ok (.aload_n 0, 1) := by decide +kernel
theorem dX10_about_97 : decode cX10_about 97 = .ok (.aload_n 0, 1) := by decide +kernel
theorem dX10_about_98 : decode cX10_about 98 = .ok (.getfield 19, 3) := by decide +kernel
theorem dX10_about_101 : decode cX10_about 101 = .ok (.getfield 129, 3) := by decide +kernel
theorem dX10_about_104 : decode cX10_about 104 = .ok (.invokevirtual 132, 3) := by decide +kernel
theorem dX10_about_107 : decode cX10_about 107 = .ok (.ireturn, 1) := by decide +kernel
theorem dX10_about_108 : decode cX10_about 108 = .ok (.aload_n 0, 1) := by decide +kernel
theorem dX10_about_109 : decode cX10_about 109 = .ok (.aload_n 0, 1) := by decide +kernel
theorem dX10_about_110 : decode cX10_about 110 = .ok (.getfield 19, 3) := by decide +kernel
theorem dX10_about_113 : decode cX10_about 113 = .ok (.getfield 147, 3) := by decide +kernel
theorem dX10_about_116 : decode cX10_about 116 = .ok (.invokevirtual 132, 3) := by decide +kernel
theorem dX10_about_119 : decode cX10_about 119 = .ok (.ireturn, 1) := by decide +kernel
theorem dX10_about_120 : decode cX10_about 120 = .ok (.aload_n 0, 1) := by decide +kernel
theorem dX10_about_121 : decode cX10_about 121 = .ok (.aload_n 0, 1) := by decide +kernel
theorem dX10_about_122 : decode cX10_about 122 = .ok (.getfield 19, 3) := by decide +kernel
theorem dX10_about_125 : decode cX10_about 125 = .ok (.getfield 150, 3) := by decide +kernel
theorem dX10_about_128 : decode cX10_about 128 = .ok (.invokevirtual 132, 3) := by decide +kernel
theorem dX10_about_131 : decode cX10_about 131 = .ok (.ireturn, 1) := by decide +kernel
theorem dX10_about_132 : decode cX10_about 132 = .ok (.aload_n 0, 1) := by decide +kernel
theorem dX10_about_133 : decode cX10_about 133 = .ok (.aload_n 0, 1) := by decide +kernel
theorem dX10_about_134 : decode cX10_about 134 = .ok (.getfield 19, 3) := by decide +kernel
theorem dX10_about_137 : decode cX10_about 137 = .ok (.getfield 153, 3) := by decide +kernel
theorem dX10_about_140 : decode cX10_about 140 = .ok (.invokevirtual 132, 3) := by decide +kernel
theorem dX10_about_143 : decode cX10_about 143 = .ok (.ireturn, 1) := by decide +kernel
theorem dX10_about_144 : decode cX10_about 144 = .ok (.aload_n 0, 1) := by decide +kernel
theorem dX10_about_145 : decode cX10_about 145 = .ok (.aload_n 0, 1) := by decide +kernel
theorem dX10_about_146 : decode cX10_about 146 = .ok (.getfield 19, 3) := by decide +kernel
theorem dX10_about_149 : decode cX10_about 149 = .ok (.getfield 156, 3) := by decide +kernel
theorem dX10_about_152 : decode cX10_about 152 = .ok (.invokevirtual 132, 3) := by decide +kernel
theorem dX10_about_155 : decode cX10_about 155 = .ok (.ireturn, 1) := by decide +kernel
theorem dX10_about_156 : decode cX10_about 156 = .ok (.aload_n 0, 1) := by decide +kernel
theorem dX10_about_157 : decode cX10_about 157 = .ok (.aload_n 0, 1) := by decide +kernel
theorem dX10_about_158 : decode cX10_about 158 = .ok (.getfield 28, 3) := by decide +kernel
theorem dX10_about_161 : decode cX10_about 161 = .ok (.invokevirtual 159, 3) := by decide +kernel
theorem dX10_about_164 : decode cX10_about 164 = .ok (.invokevirtual 132, 3) := by decide +kernel
theorem dX10_about_167 : decode cX10_about 167 = .ok (.ireturn, 1) := by decide +kernel
theorem dX10_about_168 : decode cX10_about 168 = .ok (.aload_n 0, 1) := by decide +kernel
theorem dX10_about_169 : decode cX10_about 169 = .ok (.aload_n 0, 1) := by decide +kernel
theorem dX10_about_170 : decode cX10_about 170 = .ok (.getfield 28, 3) := by decide +kernel
theorem dX10_about_173 : decode cX10_about 173 = .ok (.invokevirtual 163, 3) := by decide +kernel
theorem dX10_about_176 : decode cX10_about 176 = .ok (.invokevirtual 132, 3) := by decide +kernel
theorem dX10_about_179 : decode cX10_about 179 = .ok (.ireturn, 1) := by decide +kernel
theorem dX10_about_180 : decode cX10_about 180 = .ok (.aload_n 0, 1) := by decide +kernel
theorem dX10_about_181 : decode cX10_about 181 = .ok (.aload_n 0, 1) := by decide +kernel
theorem dX10_about_182 : decode cX10_about 182 = .ok (.getfield 28, 3) := by decide +kernel
theorem dX10_about_185 : decode cX10_about 185 = .ok (.invokevirtual 166, 3) := by decide +kernel
theorem dX10_about_188 : decode cX10_about 188 = .ok (.invokevirtual 132, 3) := by decide +kernel
theorem dX10_about_191 : decode cX10_about 191 = .ok (.ireturn, 1) := by decide +kernel
theorem dX10_about_192 : decode cX10_about 192 = .ok (.aload_n 0, 1) := by decide +kernel
theorem dX10_about_193 : decode cX10_about 193 = .ok (.aload_n 0, 1) := by decide +kernel
theorem dX10_about_194 : decode cX10_about 194 = .ok (.getfield 55, 3) := by decide +kernel
theorem dX10_about_197 : decode cX10_about 197 = .ok (.getfield 169, 3) := by decide +kernel
theorem dX10_about_200 : decode cX10_about 200 = .ok (.invokevirtual 132, 3) := by decide +kernel
theorem dX10_about_203 : decode cX10_about 203 = .ok (.ireturn, 1) := by decide +kernel
theorem dX10_about_204 : decode cX10_about 204 = .ok (.aload_n 0, 1) := by decide +kernel
theorem dX10_about_205 : decode cX10_about 205 = .ok (.iconst 1, 1) := by decide +kernel
theorem dX10_about_206 : decode cX10_about 206 = .ok (.invokevirtual 112, 3) := by decide +kernel
theorem dX10_about_209 : decode cX10_about 209 = .ok (.ireturn, 1) := by decide +kernel
theorem dX10_stroke_0 : decode cX10_stroke 0 = .ok (.aload_n 0, 1) := by decide +kernel
theorem dX10_stroke_1 : decode cX10_stroke 1 = .ok (.iload_n 1, 1) := by decide +kernel
theorem dX10_stroke_2 : decode cX10_stroke 2 = .ok (.invokevirtual 171, 3) := by decide +kernel
theorem dX10_stroke_5 : decode cX10_stroke 5 = .ok (.ifCond .ne 9, 3) := by decide +kernel
theorem dX10_stroke_8 : decode cX10_stroke 8 = .ok (.aload_n 0, 1) := by decide +kernel
theorem dX10_stroke_9 : decode cX10_stroke 9 = .ok (.iconst 1, 1) := by decide +kernel
theorem dX10_stroke_10 : decode cX10_stroke 10 = .ok (.invokevirtual 112, 3) := by decide +kernel
theorem dX10_stroke_13 : decode cX10_stroke 13 = .ok (.ireturn, 1) := by decide +kernel
theorem dX10_stroke_14 : decode cX10_stroke 14 = .ok (.iload_n 2, 1) := by decide +kernel
theorem dX10_stroke_15 : decode cX10_stroke 15 = .ok (.tableswitch 154 0 6 #[41, 57, 73, 91, 109, 122, 137], 41) := by decide +kernel
theorem dX10_stroke_56 : decode cX10_stroke 56 = .ok (.aload_n 0, 1) := by decide +kernel
theorem dX10_stroke_57 : decode cX10_stroke 57 = .ok (.aload_n 0, 1) := by decide +kernel
theorem dX10_stroke_58 : decode cX10_stroke 58 = .ok (.getfield 19, 3) := by decide +kernel
theorem dX10_stroke_61 : decode cX10_stroke 61 = .ok (.getfield 174, 3) := by decide +kernel
theorem dX10_stroke_64 : decode cX10_stroke 64 = .ok (.iconst 2, 1) := by decide +kernel
theorem dX10_stroke_65 : decode cX10_stroke 65 = .ok (.iload_n 1, 1) := by decide +kernel
theorem dX10_stroke_66 : decode cX10_stroke 66 = .ok (.imul, 1) := by decide +kernel
theorem dX10_stroke_67 : decode cX10_stroke 67 = .ok (.iaload, 1) := by decide +kernel
theorem dX10_stroke_68 : decode cX10_stroke 68 = .ok (.invokevirtual 132, 3) := by decide +kernel
theorem dX10_stroke_71 : decode cX10_stroke 71 = .ok (.ireturn, 1) := by decide +kernel
theorem dX10_stroke_72 : decode cX10_stroke 72 = .ok (.aload_n 0, 1) := by decide +kernel
theorem dX10_stroke_73 : decode cX10_stroke 73 = .ok (.aload_n 0, 1) := by decide +kernel
theorem dX10_stroke_74 : decode cX10_stroke 74 = .ok (.getfield 19, 3) := by decide +kernel
theorem dX10_stroke_77 : decode cX10_stroke 77 = .ok (.getfield 178, 3) := by decide +kernel
theorem dX10_stroke_80 : decode cX10_stroke 80 = .ok (.iconst 2, 1) := by decide +kernel
theorem dX10_stroke_81 : decode cX10_stroke 81 = .ok (.iload_n 1, 1) := by decide +kernel
theorem dX10_stroke_82 : decode cX10_stroke 82 = .ok (.imul, 1) := by decide +kernel
theorem dX10_stroke_83 : decode cX10_stroke 83 = .ok (.iaload, 1) := by decide +kernel
theorem dX10_stroke_84 : decode cX10_stroke 84 = .ok (.invokevirtual 132, 3) := by decide +kernel
theorem dX10_stroke_87 : decode cX10_stroke 87 = .ok (.ireturn, 1) := by decide +kernel
theorem dX10_stroke_88 : decode cX10_stroke 88 = .ok (.aload_n 0, 1) := by decide +kernel
theorem dX10_stroke_89 : decode cX10_stroke 89 = .ok (.aload_n 0, 1) := by decide +kernel
theorem dX10_stroke_90 : decode cX10_stroke 90 = .ok (.getfield 19, 3) := by decide +kernel
theorem dX10_stroke_93 : decode cX10_stroke 93 = .ok (.getfield 174, 3) := by decide +kernel
theorem dX10_stroke_96 : decode cX10_stroke 96 = .ok (.iconst 2, 1) := by decide +kernel
theorem dX10_stroke_97 : decode cX10_stroke 97 = .ok (.iload_n 1, 1) := by decide +kernel
theorem dX10_stroke_98 : decode cX10_stroke 98 = .ok (.imul, 1) := by decide +kernel
theorem dX10_stroke_99 : decode cX10_stroke 99 = .ok (.iconst 1, 1) := by decide +kernel
theorem dX10_stroke_100 : decode cX10_stroke 100 = .ok (.iadd, 1) := by decide +kernel
theorem dX10_stroke_101 : decode cX10_stroke 101 = .ok (.iaload, 1) := by decide +kernel
theorem dX10_stroke_102 : decode cX10_stroke 102 = .ok (.invokevirtual 132, 3) := by decide +kernel
theorem dX10_stroke_105 : decode cX10_stroke 105 = .ok (.ireturn, 1) := by decide +kernel
theorem dX10_stroke_106 : decode cX10_stroke 106 = .ok (.aload_n 0, 1) := by decide +kernel
theorem dX10_stroke_107 : decode cX10_stroke 107 = .ok (.aload_n 0, 1) := by decide +kernel
theorem dX10_stroke_108 : decode cX10_stroke 108 = .ok (.getfield 19, 3) := by decide +kernel
theorem dX10_stroke_111 : decode cX10_stroke 111 = .ok (.getfield 178, 3) := by decide +kernel
theorem dX10_stroke_114 : decode cX10_stroke 114 = .ok (.iconst 2, 1) := by decide +kernel
theorem dX10_stroke_115 : decode cX10_stroke 115 = .ok (.iload_n 1, 1) := by decide +kernel
theorem dX10_stroke_116 : decode cX10_stroke 116 = .ok (.imul, 1) := by decide +kernel
theorem dX10_stroke_117 : decode cX10_stroke 117 = .ok (.iconst 1, 1) := by decide +kernel
theorem dX10_stroke_118 : decode cX10_stroke 118 = .ok (.iadd, 1) := by decide +kernel
theorem dX10_stroke_119 : decode cX10_stroke 119 = .ok (.iaload, 1) := by decide +kernel
theorem dX10_stroke_120 : decode cX10_stroke 120 = .ok (.invokevirtual 132, 3) := by decide +kernel
theorem dX10_stroke_123 : decode cX10_stroke 123 = .ok (.ireturn, 1) := by decide +kernel
theorem dX10_stroke_124 : decode cX10_stroke 124 = .ok (.aload_n 0, 1) := by decide +kernel
theorem dX10_stroke_125 : decode cX10_stroke 125 = .ok (.aload_n 0, 1) := by decide +kernel
theorem dX10_stroke_126 : decode cX10_stroke 126 = .ok (.getfield 19, 3) := by decide +kernel
theorem dX10_stroke_129 : decode cX10_stroke 129 = .ok (.iload_n 1, 1) := by decide +kernel
theorem dX10_stroke_130 : decode cX10_stroke 130 = .ok (.invokevirtual 181, 3) := by decide +kernel
theorem dX10_stroke_133 : decode cX10_stroke 133 = .ok (.invokevirtual 132, 3) := by decide +kernel
theorem dX10_stroke_136 : decode cX10_stroke 136 = .ok (.ireturn, 1) := by decide +kernel
theorem dX10_stroke_137 : decode cX10_stroke 137 = .ok (.aload_n 0, 1) := by decide +kernel
theorem dX10_stroke_138 : decode cX10_stroke 138 = .ok (.aload_n 0, 1) := by decide +kernel
theorem dX10_stroke_139 : decode cX10_stroke 139 = .ok (.getfield 28, 3) := by decide +kernel
theorem dX10_stroke_142 : decode cX10_stroke 142 = .ok (.iconst 2, 1) := by decide +kernel
theorem dX10_stroke_143 : decode cX10_stroke 143 = .ok (.iload_n 1, 1) := by decide +kernel
theorem dX10_stroke_144 : decode cX10_stroke 144 = .ok (.imul, 1) := by decide +kernel
theorem dX10_stroke_145 : decode cX10_stroke 145 = .ok (.invokevirtual 184, 3) := by decide +kernel
theorem dX10_stroke_148 : decode cX10_stroke 148 = .ok (.invokevirtual 132, 3) := by decide +kernel
theorem dX10_stroke_151 : decode cX10_stroke 151 = .ok (.ireturn, 1) := by decide +kernel
theorem dX10_stroke_152 : decode cX10_stroke 152 = .ok (.aload_n 0, 1) := by decide +kernel
theorem dX10_stroke_153 : decode cX10_stroke 153 = .ok (.aload_n 0, 1) := by decide +kernel
theorem dX10_stroke_154 : decode cX10_stroke 154 = .ok (.getfield 28, 3) := by decide +kernel
theorem dX10_stroke_157 : decode cX10_stroke 157 = .ok (.iconst 2, 1) := by decide +kernel
theorem dX10_stroke_158 : decode cX10_stroke 158 = .ok (.iload_n 1, 1) := by decide +kernel
theorem dX10_stroke_159 : decode cX10_stroke 159 = .ok (.imul, 1) := by decide +kernel
theorem dX10_stroke_160 : decode cX10_stroke 160 = .ok (.iconst 1, 1) := by decide +kernel
theorem dX10_stroke_161 : decode cX10_stroke 161 = .ok (.iadd, 1) := by decide +kernel
theorem dX10_stroke_162 : decode cX10_stroke 162 = .ok (.invokevirtual 184, 3) := by decide +kernel
theorem dX10_stroke_165 : decode cX10_stroke 165 = .ok (.invokevirtual 132, 3) := by decide +kernel
theorem dX10_stroke_168 : decode cX10_stroke 168 = .ok (.ireturn, 1) := by decide +kernel
theorem dX10_stroke_169 : decode cX10_stroke 169 = .ok (.aload_n 0, 1) := by decide +kernel
theorem dX10_stroke_170 : decode cX10_stroke 170 = .ok (.iconst 1, 1) := by decide +kernel
theorem dX10_stroke_171 : decode cX10_stroke 171 = .ok (.invokevirtual 112, 3) := by decide +kernel
theorem dX10_stroke_174 : decode cX10_stroke 174 = .ok (.ireturn, 1) := by decide +kernel
theorem dX10_meeting_0 : decode cX10_meeting 0 = .ok (.aload_n 0, 1) := by decide +kernel
theorem dX10_meeting_1 : decode cX10_meeting 1 = .ok (.getfield 93, 3) := by decide +kernel
theorem dX10_meeting_4 : decode cX10_meeting 4 = .ok (.ifCond .eq 18, 3) := by decide +kernel
theorem dX10_meeting_7 : decode cX10_meeting 7 = .ok (.iload_n 1, 1) := by decide +kernel
theorem dX10_meeting_8 : decode cX10_meeting 8 = .ok (.ifCond .lt 14, 3) := by decide +kernel
theorem dX10_meeting_11 : decode cX10_meeting 11 = .ok (.iload_n 1, 1) := by decide +kernel
theorem dX10_meeting_12 : decode cX10_meeting 12 = .ok (.aload_n 0, 1) := by decide +kernel
theorem dX10_meeting_13 : decode cX10_meeting 13 = .ok (.getfield 28, 3) := by decide +kernel
theorem dX10_meeting_16 : decode cX10_meeting 16 = .ok (.invokevirtual 159, 3) := by decide +kernel
theorem dX10_meeting_19 : decode cX10_meeting 19 = .ok (.if_icmp .lt 9, 3) := by decide +kernel
theorem dX10_meeting_22 : decode cX10_meeting 22 = .ok (.aload_n 0, 1) := by decide +kernel
theorem dX10_meeting_23 : decode cX10_meeting 23 = .ok (.iconst 1, 1) := by decide +kernel
theorem dX10_meeting_24 : decode cX10_meeting 24 = .ok (.invokevirtual 112, 3) := by decide +kernel
theorem dX10_meeting_27 : decode cX10_meeting 27 = .ok (.ireturn, 1) := by decide +kernel
theorem dX10_meeting_28 : decode cX10_meeting 28 = .ok (.iload_n 2, 1) := by decide +kernel
theorem dX10_meeting_29 : decode cX10_meeting 29 = .ok (.tableswitch 101 0 4 #[35, 48, 61, 75, 88], 35) := by decide +kernel
theorem dX10_meeting_64 : decode cX10_meeting 64 = .ok (.aload_n 0, 1) := by decide +kernel
theorem dX10_meeting_65 : decode cX10_meeting 65 = .ok (.aload_n 0, 1) := by decide +kernel
theorem dX10_meeting_66 : decode cX10_meeting 66 = .ok (.getfield 28, 3) := by decide +kernel
theorem dX10_meeting_69 : decode cX10_meeting 69 = .ok (.iload_n 1, 1) := by decide +kernel
theorem dX10_meeting_70 : decode cX10_meeting 70 = .ok (.invokevirtual 187, 3) := by decide +kernel
theorem dX10_meeting_73 : decode cX10_meeting 73 = .ok (.invokevirtual 132, 3) := by decide +kernel
theorem dX10_meeting_76 : decode cX10_meeting 76 = .ok (.ireturn, 1) := by decide +kernel
theorem dX10_meeting_77 : decode cX10_meeting 77 = .ok (.aload_n 0, 1) := by decide +kernel
theorem dX10_meeting_78 : decode cX10_meeting 78 = .ok (.aload_n 0, 1) := by decide +kernel
theorem dX10_meeting_79 : decode cX10_meeting 79 = .ok (.getfield 28, 3) := by decide +kernel
theorem dX10_meeting_82 : decode cX10_meeting 82 = .ok (.iload_n 1, 1) := by decide +kernel
theorem dX10_meeting_83 : decode cX10_meeting 83 = .ok (.invokevirtual 190, 3) := by decide +kernel
theorem dX10_meeting_86 : decode cX10_meeting 86 = .ok (.invokevirtual 132, 3) := by decide +kernel
theorem dX10_meeting_89 : decode cX10_meeting 89 = .ok (.ireturn, 1) := by decide +kernel
theorem dX10_meeting_90 : decode cX10_meeting 90 = .ok (.aload_n 0, 1) := by decide +kernel
theorem dX10_meeting_91 : decode cX10_meeting 91 = .ok (.aload_n 0, 1) := by decide +kernel
theorem dX10_meeting_92 : decode cX10_meeting 92 = .ok (.getfield 28, 3) := by decide +kernel
theorem dX10_meeting_95 : decode cX10_meeting 95 = .ok (.getfield 193, 3) := by decide +kernel
theorem dX10_meeting_98 : decode cX10_meeting 98 = .ok (.iload_n 1, 1) := by decide +kernel
theorem dX10_meeting_99 : decode cX10_meeting 99 = .ok (.iaload, 1) := by decide +kernel
theorem dX10_meeting_100 : decode cX10_meeting 100 = .ok (.invokevirtual 132, 3) := by decide +kernel
theorem dX10_meeting_103 : decode cX10_meeting 103 = .ok (.ireturn, 1) := by decide +kernel
theorem dX10_meeting_104 : decode cX10_meeting 104 = .ok (.aload_n 0, 1) := by decide +kernel
theorem dX10_meeting_105 : decode cX10_meeting 105 = .ok (.aload_n 0, 1) := by decide +kernel
theorem dX10_meeting_106 : decode cX10_meeting 106 = .ok (.getfield 28, 3) := by decide +kernel
theorem dX10_meeting_109 : decode cX10_meeting 109 = .ok (.iload_n 1, 1) := by decide +kernel
theorem dX10_meeting_110 : decode cX10_meeting 110 = .ok (.invokevirtual 196, 3) := by decide +kernel
theorem dX10_meeting_113 : decode cX10_meeting 113 = .ok (.invokevirtual 132, 3) := by decide +kernel
theorem dX10_meeting_116 : decode cX10_meeting 116 = .ok (.ireturn, 1) := by decide +kernel
theorem dX10_meeting_117 : decode cX10_meeting 117 = .ok (.aload_n 0, 1) := by decide +kernel
theorem dX10_meeting_118 : decode cX10_meeting 118 = .ok (.aload_n 0, 1) := by decide +kernel
theorem dX10_meeting_119 : decode cX10_meeting 119 = .ok (.getfield 28, 3) := by decide +kernel
theorem dX10_meeting_122 : decode cX10_meeting 122 = .ok (.iload_n 1, 1) := by decide +kernel
theorem dX10_meeting_123 : decode cX10_meeting 123 = .ok (.invokevirtual 199, 3) := by decide +kernel
theorem dX10_meeting_126 : decode cX10_meeting 126 = .ok (.invokevirtual 132, 3) := by decide +kernel
theorem dX10_meeting_129 : decode cX10_meeting 129 = .ok (.ireturn, 1) := by decide +kernel
theorem dX10_meeting_130 : decode cX10_meeting 130 = .ok (.aload_n 0, 1) := by decide +kernel
theorem dX10_meeting_131 : decode cX10_meeting 131 = .ok (.iconst 1, 1) := by decide +kernel
theorem dX10_meeting_132 : decode cX10_meeting 132 = .ok (.invokevirtual 112, 3) := by decide +kernel
theorem dX10_meeting_135 : decode cX10_meeting 135 = .ok (.ireturn, 1) := by decide +kernel
theorem dX10_part_0 : decode cX10_part 0 = .ok (.aload_n 0, 1) := by decide +kernel
theorem dX10_part_1 : decode cX10_part 1 = .ok (.iload_n 1, 1) := by decide +kernel
theorem dX10_part_2 : decode cX10_part 2 = .ok (.invokevirtual 202, 3) := by decide +kernel
theorem dX10_part_5 : decode cX10_part 5 = .ok (.ifCond .ne 9, 3) := by decide +kernel
theorem dX10_part_8 : decode cX10_part 8 = .ok (.aload_n 0, 1) := by decide +kernel
theorem dX10_part_9 : decode cX10_part 9 = .ok (.iconst 1, 1) := by decide +kernel
theorem dX10_part_10 : decode cX10_part 10 = .ok (.invokevirtual 112, 3) := by decide +kernel
theorem dX10_part_13 : decode cX10_part 13 = .ok (.ireturn, 1) := by decide +kernel
theorem dX10_part_14 : decode cX10_part 14 = .ok (.iload_n 2, 1) := by decide +kernel
theorem dX10_part_15 : decode cX10_part 15 = .ok (.tableswitch 116 0 5 #[37, 50, 63, 77, 90, 103], 37) := by decide +kernel
theorem dX10_part_52 : decode cX10_part 52 = .ok (.aload_n 0, 1) := by decide +kernel
theorem dX10_part_53 : decode cX10_part 53 = .ok (.aload_n 0, 1) := by decide +kernel
theorem dX10_part_54 : decode cX10_part 54 = .ok (.getfield 28, 3) := by decide +kernel
theorem dX10_part_57 : decode cX10_part 57 = .ok (.iload_n 1, 1) := by decide +kernel
theorem dX10_part_58 : decode cX10_part 58 = .ok (.invokevirtual 205, 3) := by decide +kernel
theorem dX10_part_61 : decode cX10_part 61 = .ok (.invokevirtual 132, 3) := by decide +kernel
theorem dX10_part_64 : decode cX10_part 64 = .ok (.ireturn, 1) := by decide +kernel
theorem dX10_part_65 : decode cX10_part 65 = .ok (.aload_n 0, 1) := by decide +kernel
theorem dX10_part_66 : decode cX10_part 66 = .ok (.aload_n 0, 1) := by decide +kernel
theorem dX10_part_67 : decode cX10_part 67 = .ok (.getfield 28, 3) := by decide +kernel
theorem dX10_part_70 : decode cX10_part 70 = .ok (.iload_n 1, 1) := by decide +kernel
theorem dX10_part_71 : decode cX10_part 71 = .ok (.invokevirtual 208, 3) := by decide +kernel
theorem dX10_part_74 : decode cX10_part 74 = .ok (.invokevirtual 132, 3) := by decide +kernel
theorem dX10_part_77 : decode cX10_part 77 = .ok (.ireturn, 1) := by decide +kernel
theorem dX10_part_78 : decode cX10_part 78 = .ok (.aload_n 0, 1) := by decide +kernel
theorem dX10_part_79 : decode cX10_part 79 = .ok (.aload_n 0, 1) := by decide +kernel
theorem dX10_part_80 : decode cX10_part 80 = .ok (.getfield 28, 3) := by decide +kernel
theorem dX10_part_83 : decode cX10_part 83 = .ok (.getfield 211, 3) := by decide +kernel
theorem dX10_part_86 : decode cX10_part 86 = .ok (.iload_n 1, 1) := by decide +kernel
theorem dX10_part_87 : decode cX10_part 87 = .ok (.iaload, 1) := by decide +kernel
theorem dX10_part_88 : decode cX10_part 88 = .ok (.invokevirtual 132, 3) := by decide +kernel
theorem dX10_part_91 : decode cX10_part 91 = .ok (.ireturn, 1) := by decide +kernel
theorem dX10_part_92 : decode cX10_part 92 = .ok (.aload_n 0, 1) := by decide +kernel
theorem dX10_part_93 : decode cX10_part 93 = .ok (.aload_n 0, 1) := by decide +kernel
theorem dX10_part_94 : decode cX10_part 94 = .ok (.getfield 28, 3) := by decide +kernel
theorem dX10_part_97 : decode cX10_part 97 = .ok (.iload_n 1, 1) := by decide +kernel
theorem dX10_part_98 : decode cX10_part 98 = .ok (.invokevirtual 214, 3) := by decide +kernel
theorem dX10_part_101 : decode cX10_part 101 = .ok (.invokevirtual 132, 3) := by decide +kernel
theorem dX10_part_104 : decode cX10_part 104 = .ok (.ireturn, 1) := by decide +kernel
theorem dX10_part_105 : decode cX10_part 105 = .ok (.aload_n 0, 1) := by decide +kernel
theorem dX10_part_106 : decode cX10_part 106 = .ok (.aload_n 0, 1) := by decide +kernel
theorem dX10_part_107 : decode cX10_part 107 = .ok (.getfield 28, 3) := by decide +kernel
theorem dX10_part_110 : decode cX10_part 110 = .ok (.iload_n 1, 1) := by decide +kernel
theorem dX10_part_111 : decode cX10_part 111 = .ok (.invokevirtual 217, 3) := by decide +kernel
theorem dX10_part_114 : decode cX10_part 114 = .ok (.invokevirtual 132, 3) := by decide +kernel
theorem dX10_part_117 : decode cX10_part 117 = .ok (.ireturn, 1) := by decide +kernel
theorem dX10_part_118 : decode cX10_part 118 = .ok (.aload_n 0, 1) := by decide +kernel
theorem dX10_part_119 : decode cX10_part 119 = .ok (.aload_n 0, 1) := by decide +kernel
theorem dX10_part_120 : decode cX10_part 120 = .ok (.getfield 37, 3) := by decide +kernel
theorem dX10_part_123 : decode cX10_part 123 = .ok (.iload_n 1, 1) := by decide +kernel
theorem dX10_part_124 : decode cX10_part 124 = .ok (.invokevirtual 220, 3) := by decide +kernel
theorem dX10_part_127 : decode cX10_part 127 = .ok (.invokevirtual 132, 3) := by decide +kernel
theorem dX10_part_130 : decode cX10_part 130 = .ok (.ireturn, 1) := by decide +kernel
theorem dX10_part_131 : decode cX10_part 131 = .ok (.aload_n 0, 1) := by decide +kernel
theorem dX10_part_132 : decode cX10_part 132 = .ok (.iconst 1, 1) := by decide +kernel
theorem dX10_part_133 : decode cX10_part 133 = .ok (.invokevirtual 112, 3) := by decide +kernel
theorem dX10_part_136 : decode cX10_part 136 = .ok (.ireturn, 1) := by decide +kernel
theorem dX10_pair_0 : decode cX10_pair 0 = .ok (.aload_n 0, 1) := by decide +kernel
theorem dX10_pair_1 : decode cX10_pair 1 = .ok (.getfield 93, 3) := by decide +kernel
theorem dX10_pair_4 : decode cX10_pair 4 = .ok (.ifCond .eq 18, 3) := by decide +kernel
theorem dX10_pair_7 : decode cX10_pair 7 = .ok (.iload_n 1, 1) := by decide +kernel
theorem dX10_pair_8 : decode cX10_pair 8 = .ok (.ifCond .lt 14, 3) := by decide +kernel
theorem dX10_pair_11 : decode cX10_pair 11 = .ok (.iload_n 1, 1) := by decide +kernel
theorem dX10_pair_12 : decode cX10_pair 12 = .ok (.aload_n 0, 1) := by decide +kernel
theorem dX10_pair_13 : decode cX10_pair 13 = .ok (.getfield 37, 3) := by decide +kernel
theorem dX10_pair_16 : decode cX10_pair 16 = .ok (.getfield 223, 3) := by decide +kernel
theorem dX10_pair_19 : decode cX10_pair 19 = .ok (.if_icmp .lt 9, 3) := by decide +kernel
theorem dX10_pair_22 : decode cX10_pair 22 = .ok (.aload_n 0, 1) := by decide +kernel
theorem dX10_pair_23 : decode cX10_pair 23 = .ok (.iconst 1, 1) := by decide +kernel
theorem dX10_pair_24 : decode cX10_pair 24 = .ok (.invokevirtual 112, 3) := by decide +kernel
theorem dX10_pair_27 : decode cX10_pair 27 = .ok (.ireturn, 1) := by decide +kernel
theorem dX10_pair_28 : decode cX10_pair 28 = .ok (.iload_n 2, 1) := by decide +kernel
theorem dX10_pair_29 : decode cX10_pair 29 = .ok (.tableswitch 95 0 3 #[31, 45, 59, 73], 31) := by decide +kernel
theorem dX10_pair_60 : decode cX10_pair 60 = .ok (.aload_n 0, 1) := by decide +kernel
theorem dX10_pair_61 : decode cX10_pair 61 = .ok (.aload_n 0, 1) := by decide +kernel
theorem dX10_pair_62 : decode cX10_pair 62 = .ok (.getfield 37, 3) := by decide +kernel
theorem dX10_pair_65 : decode cX10_pair 65 = .ok (.getfield 224, 3) := by decide +kernel
theorem dX10_pair_68 : decode cX10_pair 68 = .ok (.iload_n 1, 1) := by decide +kernel
theorem dX10_pair_69 : decode cX10_pair 69 = .ok (.iaload, 1) := by decide +kernel
theorem dX10_pair_70 : decode cX10_pair 70 = .ok (.invokevirtual 132, 3) := by decide +kernel
theorem dX10_pair_73 : decode cX10_pair 73 = .ok (.ireturn, 1) := by decide +kernel
theorem dX10_pair_74 : decode cX10_pair 74 = .ok (.aload_n 0, 1) := by decide +kernel
theorem dX10_pair_75 : decode cX10_pair 75 = .ok (.aload_n 0, 1) := by decide +kernel
theorem dX10_pair_76 : decode cX10_pair 76 = .ok (.getfield 37, 3) := by decide +kernel
theorem dX10_pair_79 : decode cX10_pair 79 = .ok (.getfield 227, 3) := by decide +kernel
theorem dX10_pair_82 : decode cX10_pair 82 = .ok (.iload_n 1, 1) := by decide +kernel
theorem dX10_pair_83 : decode cX10_pair 83 = .ok (.iaload, 1) := by decide +kernel
theorem dX10_pair_84 : decode cX10_pair 84 = .ok (.invokevirtual 132, 3) := by decide +kernel
theorem dX10_pair_87 : decode cX10_pair 87 = .ok (.ireturn, 1) := by decide +kernel
theorem dX10_pair_88 : decode cX10_pair 88 = .ok (.aload_n 0, 1) := by decide +kernel
theorem dX10_pair_89 : decode cX10_pair 89 = .ok (.aload_n 0, 1) := by decide +kernel
theorem dX10_pair_90 : decode cX10_pair 90 = .ok (.getfield 37, 3) := by decide +kernel
theorem dX10_pair_93 : decode cX10_pair 93 = .ok (.getfield 230, 3) := by decide +kernel
theorem dX10_pair_96 : decode cX10_pair 96 = .ok (.iload_n 1, 1) := by decide +kernel
theorem dX10_pair_97 : decode cX10_pair 97 = .ok (.iaload, 1) := by decide +kernel
theorem dX10_pair_98 : decode cX10_pair 98 = .ok (.invokevirtual 132, 3) := by decide +kernel
theorem dX10_pair_101 : decode cX10_pair 101 = .ok (.ireturn, 1) := by decide +kernel
theorem dX10_pair_102 : decode cX10_pair 102 = .ok (.aload_n 0, 1) := by decide +kernel
theorem dX10_pair_103 : decode cX10_pair 103 = .ok (.aload_n 0, 1) := by decide +kernel
theorem dX10_pair_104 : decode cX10_pair 104 = .ok (.getfield 37, 3) := by decide +kernel
theorem dX10_pair_107 : decode cX10_pair 107 = .ok (.getfield 233, 3) := by decide +kernel
theorem dX10_pair_110 : decode cX10_pair 110 = .ok (.iload_n 1, 1) := by decide +kernel
theorem dX10_pair_111 : decode cX10_pair 111 = .ok (.baload, 1) := by decide +kernel
theorem dX10_pair_112 : decode cX10_pair 112 = .ok (.ifCond .eq 7, 3) := by decide +kernel
theorem dX10_pair_115 : decode cX10_pair 115 = .ok (.iconst 1, 1) := by decide +kernel
theorem dX10_pair_116 : decode cX10_pair 116 = .ok (.goto 4, 3) := by decide +kernel
theorem dX10_pair_119 : decode cX10_pair 119 = .ok (.iconst 0, 1) := by decide +kernel
theorem dX10_pair_120 : decode cX10_pair 120 = .ok (.invokevirtual 132, 3) := by decide +kernel
theorem dX10_pair_123 : decode cX10_pair 123 = .ok (.ireturn, 1) := by decide +kernel
theorem dX10_pair_124 : decode cX10_pair 124 = .ok (.aload_n 0, 1) := by decide +kernel
theorem dX10_pair_125 : decode cX10_pair 125 = .ok (.iconst 1, 1) := by decide +kernel
theorem dX10_pair_126 : decode cX10_pair 126 = .ok (.invokevirtual 112, 3) := by decide +kernel
theorem dX10_pair_129 : decode cX10_pair 129 = .ok (.ireturn, 1) := by decide +kernel
theorem dX10_walk_0 : decode cX10_walk 0 = .ok (.aload_n 0, 1) := by decide +kernel
theorem dX10_walk_1 : decode cX10_walk 1 = .ok (.iload_n 1, 1) := by decide +kernel
theorem dX10_walk_2 : decode cX10_walk 2 = .ok (.invokevirtual 202, 3) := by decide +kernel
theorem dX10_walk_5 : decode cX10_walk 5 = .ok (.ifCond .eq 7, 3) := by decide +kernel
theorem dX10_walk_8 : decode cX10_walk 8 = .ok (.iload_n 2, 1) := by decide +kernel
theorem dX10_walk_9 : decode cX10_walk 9 = .ok (.ifCond .ge 9, 3) := by decide +kernel
theorem dX10_walk_12 : decode cX10_walk 12 = .ok (.aload_n 0, 1) := by decide +kernel
theorem dX10_walk_13 : decode cX10_walk 13 = .ok (.iconst 1, 1) := by decide +kernel
theorem dX10_walk_14 : decode cX10_walk 14 = .ok (.invokevirtual 112, 3) := by decide +kernel
theorem dX10_walk_17 : decode cX10_walk 17 = .ok (.ireturn, 1) := by decide +kernel
theorem dX10_walk_18 : decode cX10_walk 18 = .ok (.iload_n 2, 1) := by decide +kernel
theorem dX10_walk_19 : decode cX10_walk 19 = .ok (.aload_n 0, 1) := by decide +kernel
theorem dX10_walk_20 : decode cX10_walk 20 = .ok (.getfield 46, 3) := by decide +kernel
theorem dX10_walk_23 : decode cX10_walk 23 = .ok (.iload_n 1, 1) := by decide +kernel
theorem dX10_walk_24 : decode cX10_walk 24 = .ok (.invokevirtual 237, 3) := by decide +kernel
theorem dX10_walk_27 : decode cX10_walk 27 = .ok (.if_icmp .lt 10, 3) := by decide +kernel
theorem dX10_walk_30 : decode cX10_walk 30 = .ok (.aload_n 0, 1) := by decide +kernel
theorem dX10_walk_31 : decode cX10_walk 31 = .ok (.bipush (-2), 2) := by decide +kernel
theorem dX10_walk_33 : decode cX10_walk 33 = .ok (.invokevirtual 132, 3) := by decide +kernel
theorem dX10_walk_36 : decode cX10_walk 36 = .ok (.ireturn, 1) := by decide +kernel
theorem dX10_walk_37 : decode cX10_walk 37 = .ok (.aload_n 0, 1) := by decide +kernel
theorem dX10_walk_38 : decode cX10_walk 38 = .ok (.aload_n 0, 1) := by decide +kernel
theorem dX10_walk_39 : decode cX10_walk 39 = .ok (.getfield 46, 3) := by decide +kernel
theorem dX10_walk_42 : decode cX10_walk 42 = .ok (.iload_n 1, 1) := by decide +kernel
theorem dX10_walk_43 : decode cX10_walk 43 = .ok (.iload_n 2, 1) := by decide +kernel
theorem dX10_walk_44 : decode cX10_walk 44 = .ok (.invokevirtual 240, 3) := by decide +kernel
theorem dX10_walk_47 : decode cX10_walk 47 = .ok (.invokevirtual 132, 3) := by decide +kernel
theorem dX10_walk_50 : decode cX10_walk 50 = .ok (.ireturn, 1) := by decide +kernel
theorem dX10_trail_0 : decode cX10_trail 0 = .ok (.aload_n 0, 1) := by decide +kernel
theorem dX10_trail_1 : decode cX10_trail 1 = .ok (.iload_n 1, 1) := by decide +kernel
theorem dX10_trail_2 : decode cX10_trail 2 = .ok (.invokevirtual 244, 3) := by decide +kernel
theorem dX10_trail_5 : decode cX10_trail 5 = .ok (.ifCond .ne 9, 3) := by decide +kernel
theorem dX10_trail_8 : decode cX10_trail 8 = .ok (.aload_n 0, 1) := by decide +kernel
theorem dX10_trail_9 : decode cX10_trail 9 = .ok (.iconst 1, 1) := by decide +kernel
theorem dX10_trail_10 : decode cX10_trail 10 = .ok (.invokevirtual 112, 3) := by decide +kernel
theorem dX10_trail_13 : decode cX10_trail 13 = .ok (.ireturn, 1) := by decide +kernel
theorem dX10_trail_14 : decode cX10_trail 14 = .ok (.aload_n 0, 1) := by decide +kernel
theorem dX10_trail_15 : decode cX10_trail 15 = .ok (.getfield 64, 3) := by decide +kernel
theorem dX10_trail_18 : decode cX10_trail 18 = .ok (.iload_n 1, 1) := by decide +kernel
theorem dX10_trail_19 : decode cX10_trail 19 = .ok (.invokevirtual 247, 3) := by decide +kernel
theorem dX10_trail_22 : decode cX10_trail 22 = .ok (.istore_n 3, 1) := by decide +kernel
theorem dX10_trail_23 : decode cX10_trail 23 = .ok (.iload_n 2, 1) := by decide +kernel
theorem dX10_trail_24 : decode cX10_trail 24 = .ok (.tableswitch 139 0 6 #[44, 58, 72, 85, 98, 112, 133], 44) := by decide +kernel
theorem dX10_trail_68 : decode cX10_trail 68 = .ok (.aload_n 0, 1) := by decide +kernel
theorem dX10_trail_69 : decode cX10_trail 69 = .ok (.aload_n 0, 1) := by decide +kernel
theorem dX10_trail_70 : decode cX10_trail 70 = .ok (.getfield 55, 3) := by decide +kernel
theorem dX10_trail_73 : decode cX10_trail 73 = .ok (.getfield 250, 3) := by decide +kernel
theorem dX10_trail_76 : decode cX10_trail 76 = .ok (.iload_n 3, 1) := by decide +kernel
theorem dX10_trail_77 : decode cX10_trail 77 = .ok (.iaload, 1) := by decide +kernel
theorem dX10_trail_78 : decode cX10_trail 78 = .ok (.invokevirtual 132, 3) := by decide +kernel
theorem dX10_trail_81 : decode cX10_trail 81 = .ok (.ireturn, 1) := by decide +kernel
theorem dX10_trail_82 : decode cX10_trail 82 = .ok (.aload_n 0, 1) := by decide +kernel
theorem dX10_trail_83 : decode cX10_trail 83 = .ok (.aload_n 0, 1) := by decide +kernel
theorem dX10_trail_84 : decode cX10_trail 84 = .ok (.getfield 55, 3) := by decide +kernel
theorem dX10_trail_87 : decode cX10_trail 87 = .ok (.getfield 253, 3) := by decide +kernel
theorem dX10_trail_90 : decode cX10_trail 90 = .ok (.iload_n 3, 1) := by decide +kernel
theorem dX10_trail_91 : decode cX10_trail 91 = .ok (.iaload, 1) := by decide +kernel
theorem dX10_trail_92 : decode cX10_trail 92 = .ok (.invokevirtual 132, 3) := by decide +kernel
theorem dX10_trail_95 : decode cX10_trail 95 = .ok (.ireturn, 1) := by decide +kernel
theorem dX10_trail_96 : decode cX10_trail 96 = .ok (.aload_n 0, 1) := by decide +kernel
theorem dX10_trail_97 : decode cX10_trail 97 = .ok (.aload_n 0, 1) := by decide +kernel
theorem dX10_trail_98 : decode cX10_trail 98 = .ok (.getfield 64, 3) := by decide +kernel
theorem dX10_trail_101 : decode cX10_trail 101 = .ok (.iload_n 1, 1) := by decide +kernel
theorem dX10_trail_102 : decode cX10_trail 102 = .ok (.invokevirtual 255, 3) := by decide +kernel
theorem dX10_trail_105 : decode cX10_trail 105 = .ok (.invokevirtual 132, 3) := by decide +kernel
theorem dX10_trail_108 : decode cX10_trail 108 = .ok (.ireturn, 1) := by decide +kernel
theorem dX10_trail_109 : decode cX10_trail 109 = .ok (.aload_n 0, 1) := by decide +kernel
theorem dX10_trail_110 : decode cX10_trail 110 = .ok (.aload_n 0, 1) := by decide +kernel
theorem dX10_trail_111 : decode cX10_trail 111 = .ok (.getfield 64, 3) := by decide +kernel
theorem dX10_trail_114 : decode cX10_trail 114 = .ok (.iload_n 1, 1) := by decide +kernel
theorem dX10_trail_115 : decode cX10_trail 115 = .ok (.invokevirtual 258, 3) := by decide +kernel
theorem dX10_trail_118 : decode cX10_trail 118 = .ok (.invokevirtual 132, 3) := by decide +kernel
theorem dX10_trail_121 : decode cX10_trail 121 = .ok (.ireturn, 1) := by decide +kernel
theorem dX10_trail_122 : decode cX10_trail 122 = .ok (.aload_n 0, 1) := by decide +kernel
theorem dX10_trail_123 : decode cX10_trail 123 = .ok (.aload_n 0, 1) := by decide +kernel
theorem dX10_trail_124 : decode cX10_trail 124 = .ok (.getfield 55, 3) := by decide +kernel
theorem dX10_trail_127 : decode cX10_trail 127 = .ok (.getfield 261, 3) := by decide +kernel
theorem dX10_trail_130 : decode cX10_trail 130 = .ok (.iload_n 3, 1) := by decide +kernel
theorem dX10_trail_131 : decode cX10_trail 131 = .ok (.iaload, 1) := by decide +kernel
theorem dX10_trail_132 : decode cX10_trail 132 = .ok (.invokevirtual 132, 3) := by decide +kernel
theorem dX10_trail_135 : decode cX10_trail 135 = .ok (.ireturn, 1) := by decide +kernel
theorem dX10_trail_136 : decode cX10_trail 136 = .ok (.aload_n 0, 1) := by decide +kernel
theorem dX10_trail_137 : decode cX10_trail 137 = .ok (.aload_n 0, 1) := by decide +kernel
theorem dX10_trail_138 : decode cX10_trail 138 = .ok (.getfield 64, 3) := by decide +kernel
theorem dX10_trail_141 : decode cX10_trail 141 = .ok (.iload_n 1, 1) := by decide +kernel
theorem dX10_trail_142 : decode cX10_trail 142 = .ok (.invokevirtual 263, 3) := by decide +kernel
theorem dX10_trail_145 : decode cX10_trail 145 = .ok (.ifCond .eq 7, 3) := by decide +kernel
theorem dX10_trail_148 : decode cX10_trail 148 = .ok (.iconst 1, 1) := by decide +kernel
theorem dX10_trail_149 : decode cX10_trail 149 = .ok (.goto 4, 3) := by decide +kernel
theorem dX10_trail_152 : decode cX10_trail 152 = .ok (.iconst 0, 1) := by decide +kernel
theorem dX10_trail_153 : decode cX10_trail 153 = .ok (.invokevirtual 132, 3) := by decide +kernel
theorem dX10_trail_156 : decode cX10_trail 156 = .ok (.ireturn, 1) := by decide +kernel
theorem dX10_trail_157 : decode cX10_trail 157 = .ok (.aload_n 0, 1) := by decide +kernel
theorem dX10_trail_158 : decode cX10_trail 158 = .ok (.iload_n 3, 1) := by decide +kernel
theorem dX10_trail_159 : decode cX10_trail 159 = .ok (.invokevirtual 132, 3) := by decide +kernel
theorem dX10_trail_162 : decode cX10_trail 162 = .ok (.ireturn, 1) := by decide +kernel
theorem dX10_trail_163 : decode cX10_trail 163 = .ok (.aload_n 0, 1) := by decide +kernel
theorem dX10_trail_164 : decode cX10_trail 164 = .ok (.iconst 1, 1) := by decide +kernel
theorem dX10_trail_165 : decode cX10_trail 165 = .ok (.invokevirtual 112, 3) := by decide +kernel
theorem dX10_trail_168 : decode cX10_trail 168 = .ok (.ireturn, 1) := by decide +kernel
theorem dX10_ride_0 : decode cX10_ride 0 = .ok (.aload_n 0, 1) := by decide +kernel
theorem dX10_ride_1 : decode cX10_ride 1 = .ok (.iload_n 1, 1) := by decide +kernel
theorem dX10_ride_2 : decode cX10_ride 2 = .ok (.invokevirtual 244, 3) := by decide +kernel
theorem dX10_ride_5 : decode cX10_ride 5 = .ok (.ifCond .eq 27, 3) := by decide +kernel
theorem dX10_ride_8 : decode cX10_ride 8 = .ok (.iload_n 2, 1) := by decide +kernel
theorem dX10_ride_9 : decode cX10_ride 9 = .ok (.ifCond .lt 23, 3) := by decide +kernel
theorem dX10_ride_12 : decode cX10_ride 12 = .ok (.iload_n 2, 1) := by decide +kernel
theorem dX10_ride_13 : decode cX10_ride 13 = .ok (.aload_n 0, 1) := by decide +kernel
theorem dX10_ride_14 : decode cX10_ride 14 = .ok (.getfield 55, 3) := by decide +kernel
theorem dX10_ride_17 : decode cX10_ride 17 = .ok (.getfield 253, 3) := by decide +kernel
theorem dX10_ride_20 : decode cX10_ride 20 = .ok (.aload_n 0, 1) := by decide +kernel
theorem dX10_ride_21 : decode cX10_ride 21 = .ok (.getfield 64, 3) := by decide +kernel
theorem dX10_ride_24 : decode cX10_ride 24 = .ok (.iload_n 1, 1) := by decide +kernel
theorem dX10_ride_25 : decode cX10_ride 25 = .ok (.invokevirtual 247, 3) := by decide +kernel
theorem dX10_ride_28 : decode cX10_ride 28 = .ok (.iaload, 1) := by decide +kernel
theorem dX10_ride_29 : decode cX10_ride 29 = .ok (.if_icmp .lt 9, 3) := by decide +kernel
theorem dX10_ride_32 : decode cX10_ride 32 = .ok (.aload_n 0, 1) := by decide +kernel
theorem dX10_ride_33 : decode cX10_ride 33 = .ok (.iconst 1, 1) := by decide +kernel
theorem dX10_ride_34 : decode cX10_ride 34 = .ok (.invokevirtual 112, 3) := by decide +kernel
theorem dX10_ride_37 : decode cX10_ride 37 = .ok (.ireturn, 1) := by decide +kernel
theorem dX10_ride_38 : decode cX10_ride 38 = .ok (.aload_n 0, 1) := by decide +kernel
theorem dX10_ride_39 : decode cX10_ride 39 = .ok (.aload_n 0, 1) := by decide +kernel
theorem dX10_ride_40 : decode cX10_ride 40 = .ok (.getfield 64, 3) := by decide +kernel
theorem dX10_ride_43 : decode cX10_ride 43 = .ok (.iload_n 1, 1) := by decide +kernel
theorem dX10_ride_44 : decode cX10_ride 44 = .ok (.iload_n 2, 1) := by decide +kernel
theorem dX10_ride_45 : decode cX10_ride 45 = .ok (.invokevirtual 266, 3) := by decide +kernel
theorem dX10_ride_48 : decode cX10_ride 48 = .ok (.invokevirtual 132, 3) := by decide +kernel
theorem dX10_ride_51 : decode cX10_ride 51 = .ok (.ireturn, 1) := by decide +kernel
theorem dX10_travel_0 : decode cX10_travel 0 = .ok (.aload_n 0, 1) := by decide +kernel
theorem dX10_travel_1 : decode cX10_travel 1 = .ok (.getfield 93, 3) := by decide +kernel
theorem dX10_travel_4 : decode cX10_travel 4 = .ok (.ifCond .eq 17, 3) := by decide +kernel
theorem dX10_travel_7 : decode cX10_travel 7 = .ok (.aload_n 0, 1) := by decide +kernel
theorem dX10_travel_8 : decode cX10_travel 8 = .ok (.aload_n 0, 1) := by decide +kernel
theorem dX10_travel_9 : decode cX10_travel 9 = .ok (.getfield 64, 3) := by decide +kernel
theorem dX10_travel_12 : decode cX10_travel 12 = .ok (.invokevirtual 269, 3) := by decide +kernel
theorem dX10_travel_15 : decode cX10_travel 15 = .ok (.invokevirtual 132, 3) := by decide +kernel
theorem dX10_travel_18 : decode cX10_travel 18 = .ok (.goto 8, 3) := by decide +kernel
theorem dX10_travel_21 : decode cX10_travel 21 = .ok (.aload_n 0, 1) := by decide +kernel
theorem dX10_travel_22 : decode cX10_travel 22 = .ok (.iconst 1, 1) := by decide +kernel
theorem dX10_travel_23 : decode cX10_travel 23 = .ok (.invokevirtual 112, 3) := by decide +kernel
theorem dX10_travel_26 : decode cX10_travel 26 = .ok (.ireturn, 1) := by decide +kernel
theorem dX10_started_0 : decode cX10_started 0 = .ok (.aload_n 0, 1) := by decide +kernel
theorem dX10_started_1 : decode cX10_started 1 = .ok (.getfield 93, 3) := by decide +kernel
theorem dX10_started_4 : decode cX10_started 4 = .ok (.ifCond .ne 9, 3) := by decide +kernel
theorem dX10_started_7 : decode cX10_started 7 = .ok (.aload_n 0, 1) := by decide +kernel
theorem dX10_started_8 : decode cX10_started 8 = .ok (.iconst 1, 1) := by decide +kernel
theorem dX10_started_9 : decode cX10_started 9 = .ok (.invokevirtual 112, 3) := by decide +kernel
theorem dX10_started_12 : decode cX10_started 12 = .ok (.ireturn, 1) := by decide +kernel
theorem dX10_started_13 : decode cX10_started 13 = .ok (.aload_n 0, 1) := by decide +kernel
theorem dX10_started_14 : decode cX10_started 14 = .ok (.getfield 81, 3) := by decide +kernel
theorem dX10_started_17 : decode cX10_started 17 = .ok (.invokevirtual 272, 3) := by decide +kernel
theorem dX10_started_20 : decode cX10_started 20 = .ok (.aload_n 0, 1) := by decide +kernel
theorem dX10_started_21 : decode cX10_started 21 = .ok (.aload_n 0, 1) := by decide +kernel
theorem dX10_started_22 : decode cX10_started 22 = .ok (.getfield 81, 3) := by decide +kernel
theorem dX10_started_25 : decode cX10_started 25 = .ok (.invokevirtual 269, 3) := by decide +kernel
theorem dX10_started_28 : decode cX10_started 28 = .ok (.invokevirtual 132, 3) := by decide +kernel
theorem dX10_started_31 : decode cX10_started 31 = .ok (.ireturn, 1) := by decide +kernel
theorem dX10_better_0 : decode cX10_better 0 = .ok (.aload_n 0, 1) := by decide +kernel
theorem dX10_better_1 : decode cX10_better 1 = .ok (.getfield 93, 3) := by decide +kernel
theorem dX10_better_4 : decode cX10_better 4 = .ok (.ifCond .eq 12, 3) := by decide +kernel
theorem dX10_better_7 : decode cX10_better 7 = .ok (.iload_n 1, 1) := by decide +kernel
theorem dX10_better_8 : decode cX10_better 8 = .ok (.ifCond .lt 8, 3) := by decide +kernel
theorem dX10_better_11 : decode cX10_better 11 = .ok (.iload_n 1, 1) := by decide +kernel
theorem dX10_better_12 : decode cX10_better 12 = .ok (.iconst 1, 1) := by decide +kernel
theorem dX10_better_13 : decode cX10_better 13 = .ok (.if_icmp .le 9, 3) := by decide +kernel
theorem dX10_better_16 : decode cX10_better 16 = .ok (.aload_n 0, 1) := by decide +kernel
theorem dX10_better_17 : decode cX10_better 17 = .ok (.iconst 1, 1) := by decide +kernel
theorem dX10_better_18 : decode cX10_better 18 = .ok (.invokevirtual 112, 3) := by decide +kernel
theorem dX10_better_21 : decode cX10_better 21 = .ok (.ireturn, 1) := by decide +kernel
theorem dX10_better_22 : decode cX10_better 22 = .ok (.aload_n 0, 1) := by decide +kernel
theorem dX10_better_23 : decode cX10_better 23 = .ok (.getfield 81, 3) := by decide +kernel
theorem dX10_better_26 : decode cX10_better 26 = .ok (.aload_n 0, 1) := by decide +kernel
theorem dX10_better_27 : decode cX10_better 27 = .ok (.getfield 64, 3) := by decide +kernel
theorem dX10_better_30 : decode cX10_better 30 = .ok (.invokevirtual 275, 3) := by decide +kernel
theorem dX10_better_33 : decode cX10_better 33 = .ok (.aload_n 0, 1) := by decide +kernel
theorem dX10_better_34 : decode cX10_better 34 = .ok (.getfield 81, 3) := by decide +kernel
theorem dX10_better_37 : decode cX10_better 37 = .ok (.invokevirtual 278, 3) := by decide +kernel
theorem dX10_better_40 : decode cX10_better 40 = .ok (.istore_n 2, 1) := by decide +kernel
theorem dX10_better_41 : decode cX10_better 41 = .ok (.aload_n 0, 1) := by decide +kernel
theorem dX10_better_42 : decode cX10_better 42 = .ok (.iload_n 1, 1) := by decide +kernel
theorem dX10_better_43 : decode cX10_better 43 = .ok (.ifCond .ne 13, 3) := by decide +kernel
theorem dX10_better_46 : decode cX10_better 46 = .ok (.aload_n 0, 1) := by decide +kernel
theorem dX10_better_47 : decode cX10_better 47 = .ok (.getfield 81, 3) := by decide +kernel
theorem dX10_better_50 : decode cX10_better 50 = .ok (.invokevirtual 269, 3) := by decide +kernel
theorem dX10_better_53 : decode cX10_better 53 = .ok (.goto 4, 3) := by decide +kernel
theorem dX10_better_56 : decode cX10_better 56 = .ok (.iload_n 2, 1) := by decide +kernel
theorem dX10_better_57 : decode cX10_better 57 = .ok (.invokevirtual 132, 3) := by decide +kernel
theorem dX10_better_60 : decode cX10_better 60 = .ok (.ireturn, 1) := by decide +kernel
theorem dX10_exchanged_0 : decode cX10_exchanged 0 = .ok (.aload_n 0, 1) := by decide +kernel
theorem dX10_exchanged_1 : decode cX10_exchanged 1 = .ok (.iload_n 1, 1) := by decide +kernel
theorem dX10_exchanged_2 : decode cX10_exchanged 2 = .ok (.invokevirtual 244, 3) := by decide +kernel
theorem dX10_exchanged_5 : decode cX10_exchanged 5 = .ok (.ifCond .eq 16, 3) := by decide +kernel
theorem dX10_exchanged_8 : decode cX10_exchanged 8 = .ok (.aload_n 0, 1) := by decide +kernel
theorem dX10_exchanged_9 : decode cX10_exchanged 9 = .ok (.iload_n 2, 1) := by decide +kernel
theorem dX10_exchanged_10 : decode cX10_exchanged 10 = .ok (.invokevirtual 244, 3) := by decide +kernel
theorem dX10_exchanged_13 : decode cX10_exchanged 13 = .ok (.ifCond .eq 8, 3) := by decide +kernel
theorem dX10_exchanged_16 : decode cX10_exchanged 16 = .ok (.iload_n 1, 1) := by decide +kernel
theorem dX10_exchanged_17 : decode cX10_exchanged 17 = .ok (.iload_n 2, 1) := by decide +kernel
theorem dX10_exchanged_18 : decode cX10_exchanged 18 = .ok (.if_icmp .le 13, 3) := by decide +kernel
theorem dX10_exchanged_21 : decode cX10_exchanged 21 = .ok (.aload_n 0, 1) := by decide +kernel
theorem dX10_exchanged_22 : decode cX10_exchanged 22 = .ok (.iconst 1, 1) := by decide +kernel
theorem dX10_exchanged_23 : decode cX10_exchanged 23 = .ok (.invokevirtual 112, 3) := by decide +kernel
theorem dX10_exchanged_26 : decode cX10_exchanged 26 = .ok (.pop, 1) := by decide +kernel
theorem dX10_exchanged_27 : decode cX10_exchanged 27 = .ok (.ldc_w 283, 3) := by decide +kernel
theorem dX10_exchanged_30 : decode cX10_exchanged 30 = .ok (.ireturn, 1) := by decide +kernel
theorem dX10_exchanged_31 : decode cX10_exchanged 31 = .ok (.aload_n 0, 1) := by decide +kernel
theorem dX10_exchanged_32 : decode cX10_exchanged 32 = .ok (.aload_n 0, 1) := by decide +kernel
theorem dX10_exchanged_33 : decode cX10_exchanged 33 = .ok (.getfield 64, 3) := by decide +kernel
theorem dX10_exchanged_36 : decode cX10_exchanged 36 = .ok (.iload_n 1, 1) := by decide +kernel
theorem dX10_exchanged_37 : decode cX10_exchanged 37 = .ok (.iload_n 2, 1) := by decide +kernel
theorem dX10_exchanged_38 : decode cX10_exchanged 38 = .ok (.invokevirtual 284, 3) := by decide +kernel
theorem dX10_exchanged_41 : decode cX10_exchanged 41 = .ok (.invokevirtual 132, 3) := by decide +kernel
theorem dX10_exchanged_44 : decode cX10_exchanged 44 = .ok (.ireturn, 1) := by decide +kernel
theorem dX10_floor_0 : decode cX10_floor 0 = .ok (.aload_n 0, 1) := by decide +kernel
theorem dX10_floor_1 : decode cX10_floor 1 = .ok (.getfield 93, 3) := by decide +kernel
theorem dX10_floor_4 : decode cX10_floor 4 = .ok (.ifCond .eq 17, 3) := by decide +kernel
theorem dX10_floor_7 : decode cX10_floor 7 = .ok (.aload_n 0, 1) := by decide +kernel
theorem dX10_floor_8 : decode cX10_floor 8 = .ok (.aload_n 0, 1) := by decide +kernel
theorem dX10_floor_9 : decode cX10_floor 9 = .ok (.getfield 55, 3) := by decide +kernel
theorem dX10_floor_12 : decode cX10_floor 12 = .ok (.invokevirtual 287, 3) := by decide +kernel
theorem dX10_floor_15 : decode cX10_floor 15 = .ok (.invokevirtual 132, 3) := by decide +kernel
theorem dX10_floor_18 : decode cX10_floor 18 = .ok (.goto 8, 3) := by decide +kernel
theorem dX10_floor_21 : decode cX10_floor 21 = .ok (.aload_n 0, 1) := by decide +kernel
theorem dX10_floor_22 : decode cX10_floor 22 = .ok (.iconst 1, 1) := by decide +kernel
theorem dX10_floor_23 : decode cX10_floor 23 = .ok (.invokevirtual 112, 3) := by decide +kernel
theorem dX10_floor_26 : decode cX10_floor 26 = .ok (.ireturn, 1) := by decide +kernel
theorem dX10_time_0 : decode cX10_time 0 = .ok (.aload_n 0, 1) := by decide +kernel
theorem dX10_time_1 : decode cX10_time 1 = .ok (.getfield 93, 3) := by decide +kernel
theorem dX10_time_4 : decode cX10_time 4 = .ok (.ifCond .eq 17, 3) := by decide +kernel
theorem dX10_time_7 : decode cX10_time 7 = .ok (.aload_n 0, 1) := by decide +kernel
theorem dX10_time_8 : decode cX10_time 8 = .ok (.aload_n 0, 1) := by decide +kernel
theorem dX10_time_9 : decode cX10_time 9 = .ok (.getfield 64, 3) := by decide +kernel
theorem dX10_time_12 : decode cX10_time 12 = .ok (.invokevirtual 290, 3) := by decide +kernel
theorem dX10_time_15 : decode cX10_time 15 = .ok (.invokevirtual 132, 3) := by decide +kernel
theorem dX10_time_18 : decode cX10_time 18 = .ok (.goto 8, 3) := by decide +kernel
theorem dX10_time_21 : decode cX10_time 21 = .ok (.aload_n 0, 1) := by decide +kernel
theorem dX10_time_22 : decode cX10_time 22 = .ok (.iconst 1, 1) := by decide +kernel
theorem dX10_time_23 : decode cX10_time 23 = .ok (.invokevirtual 112, 3) := by decide +kernel
theorem dX10_time_26 : decode cX10_time 26 = .ok (.ireturn, 1) := by decide +kernel
theorem dX10_pen_0 : decode cX10_pen 0 = .ok (.aload_n 0, 1) := by decide +kernel
theorem dX10_pen_1 : decode cX10_pen 1 = .ok (.getfield 93, 3) := by decide +kernel
theorem dX10_pen_4 : decode cX10_pen 4 = .ok (.ifCond .eq 12, 3) := by decide +kernel
theorem dX10_pen_7 : decode cX10_pen 7 = .ok (.iload_n 2, 1) := by decide +kernel
theorem dX10_pen_8 : decode cX10_pen 8 = .ok (.ifCond .lt 8, 3) := by decide +kernel
theorem dX10_pen_11 : decode cX10_pen 11 = .ok (.iload_n 2, 1) := by decide +kernel
theorem dX10_pen_12 : decode cX10_pen 12 = .ok (.iconst 2, 1) := by decide +kernel
theorem dX10_pen_13 : decode cX10_pen 13 = .ok (.if_icmp .le 9, 3) := by decide +kernel
theorem dX10_pen_16 : decode cX10_pen 16 = .ok (.aload_n 0, 1) := by decide +kernel
theorem dX10_pen_17 : decode cX10_pen 17 = .ok (.iconst 1, 1) := by decide +kernel
theorem dX10_pen_18 : decode cX10_pen 18 = .ok (.invokevirtual 112, 3) := by decide +kernel
theorem dX10_pen_21 : decode cX10_pen 21 = .ok (.ireturn, 1) := by decide +kernel
theorem dX10_pen_22 : decode cX10_pen 22 = .ok (.iload_n 1, 1) := by decide +kernel
theorem dX10_pen_23 : decode cX10_pen 23 = .ok (.ifCond .lt 10, 3) := by decide +kernel
theorem dX10_pen_26 : decode cX10_pen 26 = .ok (.iload_n 1, 1) := by decide +kernel
theorem dX10_pen_27 : decode cX10_pen 27 = .ok (.ldc_w 293, 3) := by decide +kernel
theorem dX10_pen_30 : decode cX10_pen 30 = .ok (.if_icmp .le 9, 3) := by decide +kernel
theorem dX10_pen_33 : decode cX10_pen 33 = .ok (.aload_n 0, 1) := by decide +kernel
theorem dX10_pen_34 : decode cX10_pen 34 = .ok (.iconst 2, 1) := by decide +kernel
theorem dX10_pen_35 : decode cX10_pen 35 = .ok (.invokevirtual 112, 3) := by decide +kernel
theorem dX10_pen_38 : decode cX10_pen 38 = .ok (.ireturn, 1) := by decide +kernel
theorem dX10_pen_39 : decode cX10_pen 39 = .ok (.aload_n 0, 1) := by decide +kernel
theorem dX10_pen_40 : decode cX10_pen 40 = .ok (.aload_n 0, 1) := by decide +kernel
theorem dX10_pen_41 : decode cX10_pen 41 = .ok (.getfield 64, 3) := by decide +kernel
theorem dX10_pen_44 : decode cX10_pen 44 = .ok (.iload_n 1, 1) := by decide +kernel
theorem dX10_pen_45 : decode cX10_pen 45 = .ok (.iload_n 2, 1) := by decide +kernel
theorem dX10_pen_46 : decode cX10_pen 46 = .ok (.invokevirtual 294, 3) := by decide +kernel
theorem dX10_pen_49 : decode cX10_pen 49 = .ok (.invokevirtual 132, 3) := by decide +kernel
theorem dX10_pen_52 : decode cX10_pen 52 = .ok (.ireturn, 1) := by decide +kernel
theorem dX10_longest_0 : decode cX10_longest 0 = .ok (.aload_n 0, 1) := by decide +kernel
theorem dX10_longest_1 : decode cX10_longest 1 = .ok (.getfield 93, 3) := by decide +kernel
theorem dX10_longest_4 : decode cX10_longest 4 = .ok (.ifCond .eq 17, 3) := by decide +kernel
theorem dX10_longest_7 : decode cX10_longest 7 = .ok (.aload_n 0, 1) := by decide +kernel
theorem dX10_longest_8 : decode cX10_longest 8 = .ok (.aload_n 0, 1) := by decide +kernel
theorem dX10_longest_9 : decode cX10_longest 9 = .ok (.getfield 64, 3) := by decide +kernel
theorem dX10_longest_12 : decode cX10_longest 12 = .ok (.invokevirtual 297, 3) := by decide +kernel
theorem dX10_longest_15 : decode cX10_longest 15 = .ok (.invokevirtual 132, 3) := by decide +kernel
theorem dX10_longest_18 : decode cX10_longest 18 = .ok (.goto 8, 3) := by decide +kernel
theorem dX10_longest_21 : decode cX10_longest 21 = .ok (.aload_n 0, 1) := by decide +kernel
theorem dX10_longest_22 : decode cX10_longest 22 = .ok (.iconst 1, 1) := by decide +kernel
theorem dX10_longest_23 : decode cX10_longest 23 = .ok (.invokevirtual 112, 3) := by decide +kernel
theorem dX10_longest_26 : decode cX10_longest 26 = .ok (.ireturn, 1) := by decide +kernel
theorem dX10_farthest_0 : decode cX10_farthest 0 = .ok (.aload_n 0, 1) := by decide +kernel
theorem dX10_farthest_1 : decode cX10_farthest 1 = .ok (.getfield 93, 3) := by decide +kernel
theorem dX10_farthest_4 : decode cX10_farthest 4 = .ok (.ifCond .eq 17, 3) := by decide +kernel
theorem dX10_farthest_7 : decode cX10_farthest 7 = .ok (.aload_n 0, 1) := by decide +kernel
theorem dX10_farthest_8 : decode cX10_farthest 8 = .ok (.aload_n 0, 1) := by decide +kernel
theorem dX10_farthest_9 : decode cX10_farthest 9 = .ok (.getfield 64, 3) := by decide +kernel
theorem dX10_farthest_12 : decode cX10_farthest 12 = .ok (.invokevirtual 300, 3) := by decide +kernel
theorem dX10_farthest_15 : decode cX10_farthest 15 = .ok (.invokevirtual 132, 3) := by decide +kernel
theorem dX10_farthest_18 : decode cX10_farthest 18 = .ok (.goto 8, 3) := by decide +kernel
theorem dX10_farthest_21 : decode cX10_farthest 21 = .ok (.aload_n 0, 1) := by decide +kernel
theorem dX10_farthest_22 : decode cX10_farthest 22 = .ok (.iconst 1, 1) := by decide +kernel
theorem dX10_farthest_23 : decode cX10_farthest 23 = .ok (.invokevirtual 112, 3) := by decide +kernel
theorem dX10_farthest_26 : decode cX10_farthest 26 = .ok (.ireturn, 1) := by decide +kernel
theorem dX10_lifts_0 : decode cX10_lifts 0 = .ok (.aload_n 0, 1) := by decide +kernel
theorem dX10_lifts_1 : decode cX10_lifts 1 = .ok (.getfield 93, 3) := by decide +kernel
theorem dX10_lifts_4 : decode cX10_lifts 4 = .ok (.ifCond .eq 17, 3) := by decide +kernel
theorem dX10_lifts_7 : decode cX10_lifts 7 = .ok (.aload_n 0, 1) := by decide +kernel
theorem dX10_lifts_8 : decode cX10_lifts 8 = .ok (.aload_n 0, 1) := by decide +kernel
theorem dX10_lifts_9 : decode cX10_lifts 9 = .ok (.getfield 64, 3) := by decide +kernel
theorem dX10_lifts_12 : decode cX10_lifts 12 = .ok (.invokevirtual 303, 3) := by decide +kernel
theorem dX10_lifts_15 : decode cX10_lifts 15 = .ok (.invokevirtual 132, 3) := by decide +kernel
theorem dX10_lifts_18 : decode cX10_lifts 18 = .ok (.goto 8, 3) := by decide +kernel
theorem dX10_lifts_21 : decode cX10_lifts 21 = .ok (.aload_n 0, 1) := by decide +kernel
theorem dX10_lifts_22 : decode cX10_lifts 22 = .ok (.iconst 1, 1) := by decide +kernel
theorem dX10_lifts_23 : decode cX10_lifts 23 = .ok (.invokevirtual 112, 3) := by decide +kernel
theorem dX10_lifts_26 : decode cX10_lifts 26 = .ok (.ireturn, 1) := by decide +kernel
theorem dX10_rides_0 : decode cX10_rides 0 = .ok (.aload_n 0, 1) := by decide +kernel
theorem dX10_rides_1 : decode cX10_rides 1 = .ok (.iload_n 1, 1) := by decide +kernel
theorem dX10_rides_2 : decode cX10_rides 2 = .ok (.invokevirtual 171, 3) := by decide +kernel
theorem dX10_rides_5 : decode cX10_rides 5 = .ok (.ifCond .eq 26, 3) := by decide +kernel
theorem dX10_rides_8 : decode cX10_rides 8 = .ok (.aload_n 0, 1) := by decide +kernel
theorem dX10_rides_9 : decode cX10_rides 9 = .ok (.aload_n 0, 1) := by decide +kernel
theorem dX10_rides_10 : decode cX10_rides 10 = .ok (.getfield 64, 3) := by decide +kernel
theorem dX10_rides_13 : decode cX10_rides 13 = .ok (.aload_n 0, 1) := by decide +kernel
theorem dX10_rides_14 : decode cX10_rides 14 = .ok (.getfield 55, 3) := by decide +kernel
theorem dX10_rides_17 : decode cX10_rides 17 = .ok (.getfield 306, 3) := by decide +kernel
theorem dX10_rides_20 : decode cX10_rides 20 = .ok (.iload_n 1, 1) := by decide +kernel
theorem dX10_rides_21 : decode cX10_rides 21 = .ok (.iaload, 1) := by decide +kernel
theorem dX10_rides_22 : decode cX10_rides 22 = .ok (.invokevirtual 309, 3) := by decide +kernel
theorem dX10_rides_25 : decode cX10_rides 25 = .ok (.invokevirtual 132, 3) := by decide +kernel
theorem dX10_rides_28 : decode cX10_rides 28 = .ok (.goto 8, 3) := by decide +kernel
theorem dX10_rides_31 : decode cX10_rides 31 = .ok (.aload_n 0, 1) := by decide +kernel
theorem dX10_rides_32 : decode cX10_rides 32 = .ok (.iconst 1, 1) := by decide +kernel
theorem dX10_rides_33 : decode cX10_rides 33 = .ok (.invokevirtual 112, 3) := by decide +kernel
theorem dX10_rides_36 : decode cX10_rides 36 = .ok (.ireturn, 1) := by decide +kernel
theorem dX10_would_0 : decode cX10_would 0 = .ok (.aload_n 0, 1) := by decide +kernel
theorem dX10_would_1 : decode cX10_would 1 = .ok (.iload_n 1, 1) := by decide +kernel
theorem dX10_would_2 : decode cX10_would 2 = .ok (.iload_n 2, 1) := by decide +kernel
theorem dX10_would_3 : decode cX10_would 3 = .ok (.iload_n 3, 1) := by decide +kernel
theorem dX10_would_4 : decode cX10_would 4 = .ok (.iload 4, 2) := by decide +kernel
theorem dX10_would_6 : decode cX10_would 6 = .ok (.invokevirtual 312, 3) := by decide +kernel
theorem dX10_would_9 : decode cX10_would 9 = .ok (.istore 5, 2) := by decide +kernel
theorem dX10_would_11 : decode cX10_would 11 = .ok (.iload 5, 2) := by decide +kernel
theorem dX10_would_13 : decode cX10_would 13 = .ok (.ifCond .eq 14, 3) := by decide +kernel
theorem dX10_would_16 : decode cX10_would 16 = .ok (.aload_n 0, 1) := by decide +kernel
theorem dX10_would_17 : decode cX10_would 17 = .ok (.iload 5, 2) := by decide +kernel
theorem dX10_would_19 : decode cX10_would 19 = .ok (.invokevirtual 112, 3) := by decide +kernel
theorem dX10_would_22 : decode cX10_would 22 = .ok (.pop, 1) := by decide +kernel
theorem dX10_would_23 : decode cX10_would 23 = .ok (.ldc_w 283, 3) := by decide +kernel
theorem dX10_would_26 : decode cX10_would 26 = .ok (.ireturn, 1) := by decide +kernel
theorem dX10_would_27 : decode cX10_would 27 = .ok (.aload_n 0, 1) := by decide +kernel
theorem dX10_would_28 : decode cX10_would 28 = .ok (.getfield 75, 3) := by decide +kernel
theorem dX10_would_31 : decode cX10_would 31 = .ok (.aload_n 0, 1) := by decide +kernel
theorem dX10_would_32 : decode cX10_would 32 = .ok (.getfield 19, 3) := by decide +kernel
theorem dX10_would_35 : decode cX10_would 35 = .ok (.invokevirtual 120, 3) := by decide +kernel
theorem dX10_would_38 : decode cX10_would 38 = .ok (.aload_n 0, 1) := by decide +kernel
theorem dX10_would_39 : decode cX10_would 39 = .ok (.getfield 75, 3) := by decide +kernel
theorem dX10_would_42 : decode cX10_would 42 = .ok (.iload_n 1, 1) := by decide +kernel
theorem dX10_would_43 : decode cX10_would 43 = .ok (.iload_n 2, 1) := by decide +kernel
theorem dX10_would_44 : decode cX10_would 44 = .ok (.iload_n 3, 1) := by decide +kernel
theorem dX10_would_45 : decode cX10_would 45 = .ok (.iload 4, 2) := by decide +kernel
theorem dX10_would_47 : decode cX10_would 47 = .ok (.invokevirtual 316, 3) := by decide +kernel
theorem dX10_would_50 : decode cX10_would 50 = .ok (.aload_n 0, 1) := by decide +kernel
theorem dX10_would_51 : decode cX10_would 51 = .ok (.aload_n 0, 1) := by decide +kernel
theorem dX10_would_52 : decode cX10_would 52 = .ok (.aload_n 0, 1) := by decide +kernel
theorem dX10_would_53 : decode cX10_would 53 = .ok (.getfield 19, 3) := by decide +kernel
theorem dX10_would_56 : decode cX10_would 56 = .ok (.getfield 144, 3) := by decide +kernel
theorem dX10_would_59 : decode cX10_would 59 = .ok (.invokevirtual 320, 3) := by decide +kernel
theorem dX10_would_62 : decode cX10_would 62 = .ok (.aload_n 0, 1) := by decide +kernel
theorem dX10_would_63 : decode cX10_would 63 = .ok (.getfield 55, 3) := by decide +kernel
theorem dX10_would_66 : decode cX10_would 66 = .ok (.getfield 169, 3) := by decide +kernel
theorem dX10_would_69 : decode cX10_would 69 = .ok (.isub, 1) := by decide +kernel
theorem dX10_would_70 : decode cX10_would 70 = .ok (.invokevirtual 132, 3) := by decide +kernel
theorem dX10_would_73 : decode cX10_would 73 = .ok (.ireturn, 1) := by decide +kernel
theorem dX10_worst_0 : decode cX10_worst 0 = .ok (.aload_n 0, 1) := by decide +kernel
theorem dX10_worst_1 : decode cX10_worst 1 = .ok (.getfield 93, 3) := by decide +kernel
theorem dX10_worst_4 : decode cX10_worst 4 = .ok (.ifCond .ne 9, 3) := by decide +kernel
theorem dX10_worst_7 : decode cX10_worst 7 = .ok (.aload_n 0, 1) := by decide +kernel
theorem dX10_worst_8 : decode cX10_worst 8 = .ok (.iconst 1, 1) := by decide +kernel
theorem dX10_worst_9 : decode cX10_worst 9 = .ok (.invokevirtual 112, 3) := by decide +kernel
theorem dX10_worst_12 : decode cX10_worst 12 = .ok (.ireturn, 1) := by decide +kernel
theorem dX10_worst_13 : decode cX10_worst 13 = .ok (.bipush (-2), 2) := by decide +kernel
theorem dX10_worst_15 : decode cX10_worst 15 = .ok (.istore_n 1, 1) := by decide +kernel
theorem dX10_worst_16 : decode cX10_worst 16 = .ok (.iconst 0, 1) := by decide +kernel
theorem dX10_worst_17 : decode cX10_worst 17 = .ok (.istore_n 2, 1) := by decide +kernel
theorem dX10_worst_18 : decode cX10_worst 18 = .ok (.iconst 0, 1) := by decide +kernel
theorem dX10_worst_19 : decode cX10_worst 19 = .ok (.istore_n 3, 1) := by decide +kernel
theorem dX10_worst_20 : decode cX10_worst 20 = .ok (.iload_n 3, 1) := by decide +kernel
theorem dX10_worst_21 : decode cX10_worst 21 = .ok (.aload_n 0, 1) := by decide +kernel
theorem dX10_worst_22 : decode cX10_worst 22 = .ok (.getfield 19, 3) := by decide +kernel
theorem dX10_worst_25 : decode cX10_worst 25 = .ok (.getfield 129, 3) := by decide +kernel
theorem dX10_worst_28 : decode cX10_worst 28 = .ok (.if_icmp .ge 58, 3) := by decide +kernel
theorem dX10_worst_31 : decode cX10_worst 31 = .ok (.aload_n 0, 1) := by decide +kernel
theorem dX10_worst_32 : decode cX10_worst 32 = .ok (.getfield 75, 3) := by decide +kernel
theorem dX10_worst_35 : decode cX10_worst 35 = .ok (.aload_n 0, 1) := by decide +kernel
theorem dX10_worst_36 : decode cX10_worst 36 = .ok (.getfield 19, 3) := by decide +kernel
theorem dX10_worst_39 : decode cX10_worst 39 = .ok (.invokevirtual 120, 3) := by decide +kernel
theorem dX10_worst_42 : decode cX10_worst 42 = .ok (.aload_n 0, 1) := by decide +kernel
theorem dX10_worst_43 : decode cX10_worst 43 = .ok (.getfield 75, 3) := by decide +kernel
theorem dX10_worst_46 : decode cX10_worst 46 = .ok (.iload_n 3, 1) := by decide +kernel
theorem dX10_worst_47 : decode cX10_worst 47 = .ok (.invokevirtual 323, 3) := by decide +kernel
theorem dX10_worst_50 : decode cX10_worst 50 = .ok (.aload_n 0, 1) := by decide +kernel
theorem dX10_worst_51 : decode cX10_worst 51 = .ok (.aload_n 0, 1) := by decide +kernel
theorem dX10_worst_52 : decode cX10_worst 52 = .ok (.getfield 19, 3) := by decide +kernel
theorem dX10_worst_55 : decode cX10_worst 55 = .ok (.getfield 144, 3) := by decide +kernel
theorem dX10_worst_58 : decode cX10_worst 58 = .ok (.invokevirtual 320, 3) := by decide +kernel
theorem dX10_worst_61 : decode cX10_worst 61 = .ok (.istore 4, 2) := by decide +kernel
theorem dX10_worst_63 : decode cX10_worst 63 = .ok (.iload_n 1, 1) := by decide +kernel
theorem dX10_worst_64 : decode cX10_worst 64 = .ok (.bipush (-2), 2) := by decide +kernel
theorem dX10_worst_66 : decode cX10_worst 66 = .ok (.if_icmp .eq 9, 3) := by decide +kernel
theorem dX10_worst_69 : decode cX10_worst 69 = .ok (.iload 4, 2) := by decide +kernel
theorem dX10_worst_71 : decode cX10_worst 71 = .ok (.iload_n 2, 1) := by decide +kernel
theorem dX10_worst_72 : decode cX10_worst 72 = .ok (.if_icmp .ge 8, 3) := by decide +kernel
theorem dX10_worst_75 : decode cX10_worst 75 = .ok (.iload_n 3, 1) := by decide +kernel
theorem dX10_worst_76 : decode cX10_worst 76 = .ok (.istore_n 1, 1) := by decide +kernel
theorem dX10_worst_77 : decode cX10_worst 77 = .ok (.iload 4, 2) := by decide +kernel
theorem dX10_worst_79 : decode cX10_worst 79 = .ok (.istore_n 2, 1) := by decide +kernel
theorem dX10_worst_80 : decode cX10_worst 80 = .ok (.iinc 3 1, 3) := by decide +kernel
theorem dX10_worst_83 : decode cX10_worst 83 = .ok (.goto (-63), 3) := by decide +kernel
theorem dX10_worst_86 : decode cX10_worst 86 = .ok (.aload_n 0, 1) := by decide +kernel
theorem dX10_worst_87 : decode cX10_worst 87 = .ok (.iload_n 1, 1) := by decide +kernel
theorem dX10_worst_88 : decode cX10_worst 88 = .ok (.invokevirtual 132, 3) := by decide +kernel
theorem dX10_worst_91 : decode cX10_worst 91 = .ok (.ireturn, 1) := by decide +kernel
theorem dX10_nearest_0 : decode cX10_nearest 0 = .ok (.aload_n 0, 1) := by decide +kernel
theorem dX10_nearest_1 : decode cX10_nearest 1 = .ok (.getfield 93, 3) := by decide +kernel
theorem dX10_nearest_4 : decode cX10_nearest 4 = .ok (.ifCond .ne 9, 3) := by decide +kernel
theorem dX10_nearest_7 : decode cX10_nearest 7 = .ok (.aload_n 0, 1) := by decide +kernel
theorem dX10_nearest_8 : decode cX10_nearest 8 = .ok (.iconst 1, 1) := by decide +kernel
theorem dX10_nearest_9 : decode cX10_nearest 9 = .ok (.invokevirtual 112, 3) := by decide +kernel
theorem dX10_nearest_12 : decode cX10_nearest 12 = .ok (.ireturn, 1) := by decide +kernel
theorem dX10_nearest_13 : decode cX10_nearest 13 = .ok (.aload_n 0, 1) := by decide +kernel
theorem dX10_nearest_14 : decode cX10_nearest 14 = .ok (.getfield 75, 3) := by decide +kernel
theorem dX10_nearest_17 : decode cX10_nearest 17 = .ok (.aload_n 0, 1) := by decide +kernel
theorem dX10_nearest_18 : decode cX10_nearest 18 = .ok (.getfield 19, 3) := by decide +kernel
theorem dX10_nearest_21 : decode cX10_nearest 21 = .ok (.invokevirtual 120, 3) := by decide +kernel
theorem dX10_nearest_24 : decode cX10_nearest 24 = .ok (.aload_n 0, 1) := by decide +kernel
theorem dX10_nearest_25 : decode cX10_nearest 25 = .ok (.aload_n 0, 1) := by decide +kernel
theorem dX10_nearest_26 : decode cX10_nearest 26 = .ok (.aload_n 0, 1) := by decide +kernel
theorem dX10_nearest_27 : decode cX10_nearest 27 = .ok (.bipush 50, 2) := by decide +kernel
theorem dX10_nearest_29 : decode cX10_nearest 29 = .ok (.invokevirtual 320, 3) := by decide +kernel
theorem dX10_nearest_32 : decode cX10_nearest 32 = .ok (.invokevirtual 326, 3) := by decide +kernel
theorem dX10_nearest_35 : decode cX10_nearest 35 = .ok (.invokevirtual 132, 3) := by decide +kernel
theorem dX10_nearest_38 : decode cX10_nearest 38 = .ok (.ireturn, 1) := by decide +kernel
theorem dX10_enough_0 : decode cX10_enough 0 = .ok (.aload_n 0, 1) := by decide +kernel
theorem dX10_enough_1 : decode cX10_enough 1 = .ok (.getfield 93, 3) := by decide +kernel
theorem dX10_enough_4 : decode cX10_enough 4 = .ok (.ifCond .ne 9, 3) := by decide +kernel
theorem dX10_enough_7 : decode cX10_enough 7 = .ok (.aload_n 0, 1) := by decide +kernel
theorem dX10_enough_8 : decode cX10_enough 8 = .ok (.iconst 1, 1) := by decide +kernel
theorem dX10_enough_9 : decode cX10_enough 9 = .ok (.invokevirtual 112, 3) := by decide +kernel
theorem dX10_enough_12 : decode cX10_enough 12 = .ok (.ireturn, 1) := by decide +kernel
theorem dX10_enough_13 : decode cX10_enough 13 = .ok (.iload_n 1, 1) := by decide +kernel
theorem dX10_enough_14 : decode cX10_enough 14 = .ok (.iconst 1, 1) := by decide +kernel
theorem dX10_enough_15 : decode cX10_enough 15 = .ok (.if_icmp .lt 9, 3) := by decide +kernel
theorem dX10_enough_18 : decode cX10_enough 18 = .ok (.iload_n 1, 1) := by decide +kernel
theorem dX10_enough_19 : decode cX10_enough 19 = .ok (.bipush 24, 2) := by decide +kernel
theorem dX10_enough_21 : decode cX10_enough 21 = .ok (.if_icmp .le 9, 3) := by decide +kernel
theorem dX10_enough_24 : decode cX10_enough 24 = .ok (.aload_n 0, 1) := by decide +kernel
theorem dX10_enough_25 : decode cX10_enough 25 = .ok (.iconst 2, 1) := by decide +kernel
theorem dX10_enough_26 : decode cX10_enough 26 = .ok (.invokevirtual 112, 3) := by decide +kernel
theorem dX10_enough_29 : decode cX10_enough 29 = .ok (.ireturn, 1) := by decide +kernel
theorem dX10_enough_30 : decode cX10_enough 30 = .ok (.aload_n 0, 1) := by decide +kernel
theorem dX10_enough_31 : decode cX10_enough 31 = .ok (.getfield 75, 3) := by decide +kernel
theorem dX10_enough_34 : decode cX10_enough 34 = .ok (.aload_n 0, 1) := by decide +kernel
theorem dX10_enough_35 : decode cX10_enough 35 = .ok (.getfield 19, 3) := by decide +kernel
theorem dX10_enough_38 : decode cX10_enough 38 = .ok (.invokevirtual 120, 3) := by decide +kernel
theorem dX10_enough_41 : decode cX10_enough 41 = .ok (.aload_n 0, 1) := by decide +kernel
theorem dX10_enough_42 : decode cX10_enough 42 = .ok (.iload_n 1, 1) := by decide +kernel
theorem dX10_enough_43 : decode cX10_enough 43 = .ok (.invokevirtual 326, 3) := by decide +kernel
theorem dX10_enough_46 : decode cX10_enough 46 = .ok (.istore_n 2, 1) := by decide +kernel
theorem dX10_enough_47 : decode cX10_enough 47 = .ok (.aload_n 0, 1) := by decide +kernel
theorem dX10_enough_48 : decode cX10_enough 48 = .ok (.iload_n 2, 1) := by decide +kernel
theorem dX10_enough_49 : decode cX10_enough 49 = .ok (.bipush 50, 2) := by decide +kernel
theorem dX10_enough_51 : decode cX10_enough 51 = .ok (.if_icmp .le 8, 3) := by decide +kernel
theorem dX10_enough_54 : decode cX10_enough 54 = .ok (.bipush (-2), 2) := by decide +kernel
theorem dX10_enough_56 : decode cX10_enough 56 = .ok (.goto 4, 3) := by decide +kernel
theorem dX10_enough_59 : decode cX10_enough 59 = .ok (.iload_n 2, 1) := by decide +kernel
theorem dX10_enough_60 : decode cX10_enough 60 = .ok (.invokevirtual 132, 3) := by decide +kernel
theorem dX10_enough_63 : decode cX10_enough 63 = .ok (.ireturn, 1) := by decide +kernel
theorem dX10_add_0 : decode cX10_add 0 = .ok (.aload_n 0, 1) := by decide +kernel
theorem dX10_add_1 : decode cX10_add 1 = .ok (.iload_n 1, 1) := by decide +kernel
theorem dX10_add_2 : decode cX10_add 2 = .ok (.iload_n 2, 1) := by decide +kernel
theorem dX10_add_3 : decode cX10_add 3 = .ok (.iload_n 3, 1) := by decide +kernel
theorem dX10_add_4 : decode cX10_add 4 = .ok (.iload 4, 2) := by decide +kernel
theorem dX10_add_6 : decode cX10_add 6 = .ok (.invokevirtual 312, 3) := by decide +kernel
theorem dX10_add_9 : decode cX10_add 9 = .ok (.istore 5, 2) := by decide +kernel
theorem dX10_add_11 : decode cX10_add 11 = .ok (.iload 5, 2) := by decide +kernel
theorem dX10_add_13 : decode cX10_add 13 = .ok (.ifCond .eq 10, 3) := by decide +kernel
theorem dX10_add_16 : decode cX10_add 16 = .ok (.aload_n 0, 1) := by decide +kernel
theorem dX10_add_17 : decode cX10_add 17 = .ok (.iload 5, 2) := by decide +kernel
theorem dX10_add_19 : decode cX10_add 19 = .ok (.invokevirtual 112, 3) := by decide +kernel
theorem dX10_add_22 : decode cX10_add 22 = .ok (.ireturn, 1) := by decide +kernel
theorem dX10_add_23 : decode cX10_add 23 = .ok (.aload_n 0, 1) := by decide +kernel
theorem dX10_add_24 : decode cX10_add 24 = .ok (.getfield 71, 3) := by decide +kernel
theorem dX10_add_27 : decode cX10_add 27 = .ok (.aload_n 0, 1) := by decide +kernel
theorem dX10_add_28 : decode cX10_add 28 = .ok (.getfield 19, 3) := by decide +kernel
theorem dX10_add_31 : decode cX10_add 31 = .ok (.aload_n 0, 1) := by decide +kernel
theorem dX10_add_32 : decode cX10_add 32 = .ok (.getfield 64, 3) := by decide +kernel
theorem dX10_add_35 : decode cX10_add 35 = .ok (.invokevirtual 329, 3) := by decide +kernel
theorem dX10_add_38 : decode cX10_add 38 = .ok (.aload_n 0, 1) := by decide +kernel
theorem dX10_add_39 : decode cX10_add 39 = .ok (.getfield 19, 3) := by decide +kernel
theorem dX10_add_42 : decode cX10_add 42 = .ok (.iload_n 1, 1) := by decide +kernel
theorem dX10_add_43 : decode cX10_add 43 = .ok (.iload_n 2, 1) := by decide +kernel
theorem dX10_add_44 : decode cX10_add 44 = .ok (.iload_n 3, 1) := by decide +kernel
theorem dX10_add_45 : decode cX10_add 45 = .ok (.iload 4, 2) := by decide +kernel
theorem dX10_add_47 : decode cX10_add 47 = .ok (.invokevirtual 316, 3) := by decide +kernel
theorem dX10_add_50 : decode cX10_add 50 = .ok (.aload_n 0, 1) := by decide +kernel
theorem dX10_add_51 : decode cX10_add 51 = .ok (.invokevirtual 126, 3) := by decide +kernel
theorem dX10_add_54 : decode cX10_add 54 = .ok (.aload_n 0, 1) := by decide +kernel
theorem dX10_add_55 : decode cX10_add 55 = .ok (.aload_n 0, 1) := by decide +kernel
theorem dX10_add_56 : decode cX10_add 56 = .ok (.getfield 19, 3) := by decide +kernel
theorem dX10_add_59 : decode cX10_add 59 = .ok (.getfield 129, 3) := by decide +kernel
theorem dX10_add_62 : decode cX10_add 62 = .ok (.invokevirtual 132, 3) := by decide +kernel
theorem dX10_add_65 : decode cX10_add 65 = .ok (.ireturn, 1) := by decide +kernel
theorem dX10_drop_0 : decode cX10_drop 0 = .ok (.aload_n 0, 1) := by decide +kernel
theorem dX10_drop_1 : decode cX10_drop 1 = .ok (.iload_n 1, 1) := by decide +kernel
theorem dX10_drop_2 : decode cX10_drop 2 = .ok (.invokevirtual 171, 3) := by decide +kernel
theorem dX10_drop_5 : decode cX10_drop 5 = .ok (.ifCond .ne 9, 3) := by decide +kernel
theorem dX10_drop_8 : decode cX10_drop 8 = .ok (.aload_n 0, 1) := by decide +kernel
theorem dX10_drop_9 : decode cX10_drop 9 = .ok (.iconst 1, 1) := by decide +kernel
theorem dX10_drop_10 : decode cX10_drop 10 = .ok (.invokevirtual 112, 3) := by decide +kernel
theorem dX10_drop_13 : decode cX10_drop 13 = .ok (.ireturn, 1) := by decide +kernel
theorem dX10_drop_14 : decode cX10_drop 14 = .ok (.aload_n 0, 1) := by decide +kernel
theorem dX10_drop_15 : decode cX10_drop 15 = .ok (.getfield 71, 3) := by decide +kernel
theorem dX10_drop_18 : decode cX10_drop 18 = .ok (.aload_n 0, 1) := by decide +kernel
theorem dX10_drop_19 : decode cX10_drop 19 = .ok (.getfield 19, 3) := by decide +kernel
theorem dX10_drop_22 : decode cX10_drop 22 = .ok (.aload_n 0, 1) := by decide +kernel
theorem dX10_drop_23 : decode cX10_drop 23 = .ok (.getfield 64, 3) := by decide +kernel
theorem dX10_drop_26 : decode cX10_drop 26 = .ok (.invokevirtual 329, 3) := by decide +kernel
theorem dX10_drop_29 : decode cX10_drop 29 = .ok (.aload_n 0, 1) := by decide +kernel
theorem dX10_drop_30 : decode cX10_drop 30 = .ok (.getfield 19, 3) := by decide +kernel
theorem dX10_drop_33 : decode cX10_drop 33 = .ok (.iload_n 1, 1) := by decide +kernel
theorem dX10_drop_34 : decode cX10_drop 34 = .ok (.invokevirtual 323, 3) := by decide +kernel
theorem dX10_drop_37 : decode cX10_drop 37 = .ok (.aload_n 0, 1) := by decide +kernel
theorem dX10_drop_38 : decode cX10_drop 38 = .ok (.invokevirtual 126, 3) := by decide +kernel
theorem dX10_drop_41 : decode cX10_drop 41 = .ok (.aload_n 0, 1) := by decide +kernel
theorem dX10_drop_42 : decode cX10_drop 42 = .ok (.aload_n 0, 1) := by decide +kernel
theorem dX10_drop_43 : decode cX10_drop 43 = .ok (.getfield 19, 3) := by decide +kernel
theorem dX10_drop_46 : decode cX10_drop 46 = .ok (.getfield 129, 3) := by decide +kernel
theorem dX10_drop_49 : decode cX10_drop 49 = .ok (.invokevirtual 132, 3) := by decide +kernel
theorem dX10_drop_52 : decode cX10_drop 52 = .ok (.ireturn, 1) := by decide +kernel
theorem dX10_home_0 : decode cX10_home 0 = .ok (.aload_n 0, 1) := by decide +kernel
theorem dX10_home_1 : decode cX10_home 1 = .ok (.getfield 93, 3) := by decide +kernel
theorem dX10_home_4 : decode cX10_home 4 = .ok (.ifCond .ne 9, 3) := by decide +kernel
theorem dX10_home_7 : decode cX10_home 7 = .ok (.aload_n 0, 1) := by decide +kernel
theorem dX10_home_8 : decode cX10_home 8 = .ok (.iconst 1, 1) := by decide +kernel
theorem dX10_home_9 : decode cX10_home 9 = .ok (.invokevirtual 112, 3) := by decide +kernel
theorem dX10_home_12 : decode cX10_home 12 = .ok (.ireturn, 1) := by decide +kernel
theorem dX10_home_13 : decode cX10_home 13 = .ok (.aload_n 0, 1) := by decide +kernel
theorem dX10_home_14 : decode cX10_home 14 = .ok (.getfield 19, 3) := by decide +kernel
theorem dX10_home_17 : decode cX10_home 17 = .ok (.iload_n 1, 1) := by decide +kernel
theorem dX10_home_18 : decode cX10_home 18 = .ok (.iload_n 2, 1) := by decide +kernel
theorem dX10_home_19 : decode cX10_home 19 = .ok (.invokevirtual 333, 3) := by decide +kernel
theorem dX10_home_22 : decode cX10_home 22 = .ok (.ifCond .ne 9, 3) := by decide +kernel
theorem dX10_home_25 : decode cX10_home 25 = .ok (.aload_n 0, 1) := by decide +kernel
theorem dX10_home_26 : decode cX10_home 26 = .ok (.iconst 2, 1) := by decide +kernel
theorem dX10_home_27 : decode cX10_home 27 = .ok (.invokevirtual 112, 3) := by decide +kernel
theorem dX10_home_30 : decode cX10_home 30 = .ok (.ireturn, 1) := by decide +kernel
theorem dX10_home_31 : decode cX10_home 31 = .ok (.aload_n 0, 1) := by decide +kernel
theorem dX10_home_32 : decode cX10_home 32 = .ok (.getfield 71, 3) := by decide +kernel
theorem dX10_home_35 : decode cX10_home 35 = .ok (.aload_n 0, 1) := by decide +kernel
theorem dX10_home_36 : decode cX10_home 36 = .ok (.getfield 19, 3) := by decide +kernel
theorem dX10_home_39 : decode cX10_home 39 = .ok (.aload_n 0, 1) := by decide +kernel
theorem dX10_home_40 : decode cX10_home 40 = .ok (.getfield 64, 3) := by decide +kernel
theorem dX10_home_43 : decode cX10_home 43 = .ok (.invokevirtual 329, 3) := by decide +kernel
theorem dX10_home_46 : decode cX10_home 46 = .ok (.aload_n 0, 1) := by decide +kernel
theorem dX10_home_47 : decode cX10_home 47 = .ok (.getfield 19, 3) := by decide +kernel
theorem dX10_home_50 : decode cX10_home 50 = .ok (.iload_n 1, 1) := by decide +kernel
theorem dX10_home_51 : decode cX10_home 51 = .ok (.putfield 147, 3) := by decide +kernel
theorem dX10_home_54 : decode cX10_home 54 = .ok (.aload_n 0, 1) := by decide +kernel
theorem dX10_home_55 : decode cX10_home 55 = .ok (.getfield 19, 3) := by decide +kernel
theorem dX10_home_58 : decode cX10_home 58 = .ok (.iload_n 2, 1) := by decide +kernel
theorem dX10_home_59 : decode cX10_home 59 = .ok (.putfield 150, 3) := by decide +kernel
theorem dX10_home_62 : decode cX10_home 62 = .ok (.aload_n 0, 1) := by decide +kernel
theorem dX10_home_63 : decode cX10_home 63 = .ok (.aload_n 0, 1) := by decide +kernel
theorem dX10_home_64 : decode cX10_home 64 = .ok (.getfield 64, 3) := by decide +kernel
theorem dX10_home_67 : decode cX10_home 67 = .ok (.invokevirtual 269, 3) := by decide +kernel
theorem dX10_home_70 : decode cX10_home 70 = .ok (.invokevirtual 132, 3) := by decide +kernel
theorem dX10_home_73 : decode cX10_home 73 = .ok (.ireturn, 1) := by decide +kernel
theorem dX10_join_0 : decode cX10_join 0 = .ok (.aload_n 0, 1) := by decide +kernel
theorem dX10_join_1 : decode cX10_join 1 = .ok (.getfield 93, 3) := by decide +kernel
theorem dX10_join_4 : decode cX10_join 4 = .ok (.ifCond .ne 9, 3) := by decide +kernel
theorem dX10_join_7 : decode cX10_join 7 = .ok (.aload_n 0, 1) := by decide +kernel
theorem dX10_join_8 : decode cX10_join 8 = .ok (.iconst 1, 1) := by decide +kernel
theorem dX10_join_9 : decode cX10_join 9 = .ok (.invokevirtual 112, 3) := by decide +kernel
theorem dX10_join_12 : decode cX10_join 12 = .ok (.ireturn, 1) := by decide +kernel
theorem dX10_join_13 : decode cX10_join 13 = .ok (.iload_n 1, 1) := by decide +kernel
theorem dX10_join_14 : decode cX10_join 14 = .ok (.ifCond .lt 9, 3) := by decide +kernel
theorem dX10_join_17 : decode cX10_join 17 = .ok (.iload_n 1, 1) := by decide +kernel
theorem dX10_join_18 : decode cX10_join 18 = .ok (.bipush 50, 2) := by decide +kernel
theorem dX10_join_20 : decode cX10_join 20 = .ok (.if_icmp .le 9, 3) := by decide +kernel
theorem dX10_join_23 : decode cX10_join 23 = .ok (.aload_n 0, 1) := by decide +kernel
theorem dX10_join_24 : decode cX10_join 24 = .ok (.iconst 2, 1) := by decide +kernel
theorem dX10_join_25 : decode cX10_join 25 = .ok (.invokevirtual 112, 3) := by decide +kernel
theorem dX10_join_28 : decode cX10_join 28 = .ok (.ireturn, 1) := by decide +kernel
theorem dX10_join_29 : decode cX10_join 29 = .ok (.aload_n 0, 1) := by decide +kernel
theorem dX10_join_30 : decode cX10_join 30 = .ok (.getfield 71, 3) := by decide +kernel
theorem dX10_join_33 : decode cX10_join 33 = .ok (.aload_n 0, 1) := by decide +kernel
theorem dX10_join_34 : decode cX10_join 34 = .ok (.getfield 19, 3) := by decide +kernel
theorem dX10_join_37 : decode cX10_join 37 = .ok (.aload_n 0, 1) := by decide +kernel
theorem dX10_join_38 : decode cX10_join 38 = .ok (.getfield 64, 3) := by decide +kernel
theorem dX10_join_41 : decode cX10_join 41 = .ok (.invokevirtual 329, 3) := by decide +kernel
theorem dX10_join_44 : decode cX10_join 44 = .ok (.iload_n 1, 1) := by decide +kernel
theorem dX10_join_45 : decode cX10_join 45 = .ok (.aload_n 0, 1) := by decide +kernel
theorem dX10_join_46 : decode cX10_join 46 = .ok (.getfield 19, 3) := by decide +kernel
theorem dX10_join_49 : decode cX10_join 49 = .ok (.getfield 144, 3) := by decide +kernel
theorem dX10_join_52 : decode cX10_join 52 = .ok (.if_icmp .eq 15, 3) := by decide +kernel
theorem dX10_join_55 : decode cX10_join 55 = .ok (.aload_n 0, 1) := by decide +kernel
theorem dX10_join_56 : decode cX10_join 56 = .ok (.getfield 19, 3) := by decide +kernel
theorem dX10_join_59 : decode cX10_join 59 = .ok (.iload_n 1, 1) := by decide +kernel
theorem dX10_join_60 : decode cX10_join 60 = .ok (.putfield 144, 3) := by decide +kernel
theorem dX10_join_63 : decode cX10_join 63 = .ok (.aload_n 0, 1) := by decide +kernel
theorem dX10_join_64 : decode cX10_join 64 = .ok (.invokevirtual 126, 3) := by decide +kernel
theorem dX10_join_67 : decode cX10_join 67 = .ok (.aload_n 0, 1) := by decide +kernel
theorem dX10_join_68 : decode cX10_join 68 = .ok (.aload_n 0, 1) := by decide +kernel
theorem dX10_join_69 : decode cX10_join 69 = .ok (.getfield 55, 3) := by decide +kernel
theorem dX10_join_72 : decode cX10_join 72 = .ok (.getfield 169, 3) := by decide +kernel
theorem dX10_join_75 : decode cX10_join 75 = .ok (.invokevirtual 132, 3) := by decide +kernel
theorem dX10_join_78 : decode cX10_join 78 = .ok (.ireturn, 1) := by decide +kernel
theorem dX10_pace_0 : decode cX10_pace 0 = .ok (.aload_n 0, 1) := by decide +kernel
theorem dX10_pace_1 : decode cX10_pace 1 = .ok (.getfield 93, 3) := by decide +kernel
theorem dX10_pace_4 : decode cX10_pace 4 = .ok (.ifCond .ne 9, 3) := by decide +kernel
theorem dX10_pace_7 : decode cX10_pace 7 = .ok (.aload_n 0, 1) := by decide +kernel
theorem dX10_pace_8 : decode cX10_pace 8 = .ok (.iconst 1, 1) := by decide +kernel
theorem dX10_pace_9 : decode cX10_pace 9 = .ok (.invokevirtual 112, 3) := by decide +kernel
theorem dX10_pace_12 : decode cX10_pace 12 = .ok (.ireturn, 1) := by decide +kernel
theorem dX10_pace_13 : decode cX10_pace 13 = .ok (.aload_n 0, 1) := by decide +kernel
theorem dX10_pace_14 : decode cX10_pace 14 = .ok (.iload_n 1, 1) := by decide +kernel
theorem dX10_pace_15 : decode cX10_pace 15 = .ok (.invokevirtual 337, 3) := by decide +kernel
theorem dX10_pace_18 : decode cX10_pace 18 = .ok (.ifCond .eq 11, 3) := by decide +kernel
theorem dX10_pace_21 : decode cX10_pace 21 = .ok (.aload_n 0, 1) := by decide +kernel
theorem dX10_pace_22 : decode cX10_pace 22 = .ok (.iload_n 2, 1) := by decide +kernel
theorem dX10_pace_23 : decode cX10_pace 23 = .ok (.invokevirtual 337, 3) := by decide +kernel
theorem dX10_pace_26 : decode cX10_pace 26 = .ok (.ifCond .ne 9, 3) := by decide +kernel
theorem dX10_pace_29 : decode cX10_pace 29 = .ok (.aload_n 0, 1) := by decide +kernel
theorem dX10_pace_30 : decode cX10_pace 30 = .ok (.iconst 2, 1) := by decide +kernel
theorem dX10_pace_31 : decode cX10_pace 31 = .ok (.invokevirtual 112, 3) := by decide +kernel
theorem dX10_pace_34 : decode cX10_pace 34 = .ok (.ireturn, 1) := by decide +kernel
theorem dX10_pace_35 : decode cX10_pace 35 = .ok (.aload_n 0, 1) := by decide +kernel
theorem dX10_pace_36 : decode cX10_pace 36 = .ok (.getfield 71, 3) := by decide +kernel
theorem dX10_pace_39 : decode cX10_pace 39 = .ok (.aload_n 0, 1) := by decide +kernel
theorem dX10_pace_40 : decode cX10_pace 40 = .ok (.getfield 19, 3) := by decide +kernel
theorem dX10_pace_43 : decode cX10_pace 43 = .ok (.aload_n 0, 1) := by decide +kernel
theorem dX10_pace_44 : decode cX10_pace 44 = .ok (.getfield 64, 3) := by decide +kernel
theorem dX10_pace_47 : decode cX10_pace 47 = .ok (.invokevirtual 329, 3) := by decide +kernel
theorem dX10_pace_50 : decode cX10_pace 50 = .ok (.aload_n 0, 1) := by decide +kernel
theorem dX10_pace_51 : decode cX10_pace 51 = .ok (.getfield 19, 3) := by decide +kernel
theorem dX10_pace_54 : decode cX10_pace 54 = .ok (.iload_n 1, 1) := by decide +kernel
theorem dX10_pace_55 : decode cX10_pace 55 = .ok (.putfield 153, 3) := by decide +kernel
theorem dX10_pace_58 : decode cX10_pace 58 = .ok (.aload_n 0, 1) := by decide +kernel
theorem dX10_pace_59 : decode cX10_pace 59 = .ok (.getfield 19, 3) := by decide +kernel
theorem dX10_pace_62 : decode cX10_pace 62 = .ok (.iload_n 2, 1) := by decide +kernel
theorem dX10_pace_63 : decode cX10_pace 63 = .ok (.putfield 156, 3) := by decide +kernel
theorem dX10_pace_66 : decode cX10_pace 66 = .ok (.aload_n 0, 1) := by decide +kernel
theorem dX10_pace_67 : decode cX10_pace 67 = .ok (.aload_n 0, 1) := by decide +kernel
theorem dX10_pace_68 : decode cX10_pace 68 = .ok (.getfield 64, 3) := by decide +kernel
theorem dX10_pace_71 : decode cX10_pace 71 = .ok (.invokevirtual 290, 3) := by decide +kernel
theorem dX10_pace_74 : decode cX10_pace 74 = .ok (.invokevirtual 132, 3) := by decide +kernel
theorem dX10_pace_77 : decode cX10_pace 77 = .ok (.ireturn, 1) := by decide +kernel
theorem dX10_exchange_0 : decode cX10_exchange 0 = .ok (.aload_n 0, 1) := by decide +kernel
theorem dX10_exchange_1 : decode cX10_exchange 1 = .ok (.iload_n 1, 1) := by decide +kernel
theorem dX10_exchange_2 : decode cX10_exchange 2 = .ok (.invokevirtual 244, 3) := by decide +kernel
theorem dX10_exchange_5 : decode cX10_exchange 5 = .ok (.ifCond .eq 11, 3) := by decide +kernel
theorem dX10_exchange_8 : decode cX10_exchange 8 = .ok (.aload_n 0, 1) := by decide +kernel
theorem dX10_exchange_9 : decode cX10_exchange 9 = .ok (.iload_n 2, 1) := by decide +kernel
theorem dX10_exchange_10 : decode cX10_exchange 10 = .ok (.invokevirtual 244, 3) := by decide +kernel
theorem dX10_exchange_13 : decode cX10_exchange 13 = .ok (.ifCond .ne 9, 3) := by decide +kernel
theorem dX10_exchange_16 : decode cX10_exchange 16 = .ok (.aload_n 0, 1) := by decide +kernel
theorem dX10_exchange_17 : decode cX10_exchange 17 = .ok (.iconst 1, 1) := by decide +kernel
theorem dX10_exchange_18 : decode cX10_exchange 18 = .ok (.invokevirtual 112, 3) := by decide +kernel
theorem dX10_exchange_21 : decode cX10_exchange 21 = .ok (.ireturn, 1) := by decide +kernel
theorem dX10_exchange_22 : decode cX10_exchange 22 = .ok (.iload_n 1, 1) := by decide +kernel
theorem dX10_exchange_23 : decode cX10_exchange 23 = .ok (.iload_n 2, 1) := by decide +kernel
theorem dX10_exchange_24 : decode cX10_exchange 24 = .ok (.if_icmp .le 9, 3) := by decide +kernel
theorem dX10_exchange_27 : decode cX10_exchange 27 = .ok (.aload_n 0, 1) := by decide +kernel
theorem dX10_exchange_28 : decode cX10_exchange 28 = .ok (.iconst 2, 1) := by decide +kernel
theorem dX10_exchange_29 : decode cX10_exchange 29 = .ok (.invokevirtual 112, 3) := by decide +kernel
theorem dX10_exchange_32 : decode cX10_exchange 32 = .ok (.ireturn, 1) := by decide +kernel
theorem dX10_exchange_33 : decode cX10_exchange 33 = .ok (.aload_n 0, 1) := by decide +kernel
theorem dX10_exchange_34 : decode cX10_exchange 34 = .ok (.getfield 71, 3) := by decide +kernel
theorem dX10_exchange_37 : decode cX10_exchange 37 = .ok (.aload_n 0, 1) := by decide +kernel
theorem dX10_exchange_38 : decode cX10_exchange 38 = .ok (.getfield 19, 3) := by decide +kernel
theorem dX10_exchange_41 : decode cX10_exchange 41 = .ok (.aload_n 0, 1) := by decide +kernel
theorem dX10_exchange_42 : decode cX10_exchange 42 = .ok (.getfield 64, 3) := by decide +kernel
theorem dX10_exchange_45 : decode cX10_exchange 45 = .ok (.invokevirtual 329, 3) := by decide +kernel
theorem dX10_exchange_48 : decode cX10_exchange 48 = .ok (.aload_n 0, 1) := by decide +kernel
theorem dX10_exchange_49 : decode cX10_exchange 49 = .ok (.getfield 64, 3) := by decide +kernel
theorem dX10_exchange_52 : decode cX10_exchange 52 = .ok (.iload_n 1, 1) := by decide +kernel
theorem dX10_exchange_53 : decode cX10_exchange 53 = .ok (.iload_n 2, 1) := by decide +kernel
theorem dX10_exchange_54 : decode cX10_exchange 54 = .ok (.invokevirtual 340, 3) := by decide +kernel
theorem dX10_exchange_57 : decode cX10_exchange 57 = .ok (.aload_n 0, 1) := by decide +kernel
theorem dX10_exchange_58 : decode cX10_exchange 58 = .ok (.aload_n 0, 1) := by decide +kernel
theorem dX10_exchange_59 : decode cX10_exchange 59 = .ok (.getfield 64, 3) := by decide +kernel
theorem dX10_exchange_62 : decode cX10_exchange 62 = .ok (.invokevirtual 269, 3) := by decide +kernel
theorem dX10_exchange_65 : decode cX10_exchange 65 = .ok (.invokevirtual 132, 3) := by decide +kernel
theorem dX10_exchange_68 : decode cX10_exchange 68 = .ok (.ireturn, 1) := by decide +kernel
theorem dX10_improve_0 : decode cX10_improve 0 = .ok (.aload_n 0, 1) := by decide +kernel
theorem dX10_improve_1 : decode cX10_improve 1 = .ok (.getfield 93, 3) := by decide +kernel
theorem dX10_improve_4 : decode cX10_improve 4 = .ok (.ifCond .ne 9, 3) := by decide +kernel
theorem dX10_improve_7 : decode cX10_improve 7 = .ok (.aload_n 0, 1) := by decide +kernel
theorem dX10_improve_8 : decode cX10_improve 8 = .ok (.iconst 1, 1) := by decide +kernel
theorem dX10_improve_9 : decode cX10_improve 9 = .ok (.invokevirtual 112, 3) := by decide +kernel
theorem dX10_improve_12 : decode cX10_improve 12 = .ok (.ireturn, 1) := by decide +kernel
theorem dX10_improve_13 : decode cX10_improve 13 = .ok (.aload_n 0, 1) := by decide +kernel
theorem dX10_improve_14 : decode cX10_improve 14 = .ok (.getfield 81, 3) := by decide +kernel
theorem dX10_improve_17 : decode cX10_improve 17 = .ok (.aload_n 0, 1) := by decide +kernel
theorem dX10_improve_18 : decode cX10_improve 18 = .ok (.getfield 64, 3) := by decide +kernel
theorem dX10_improve_21 : decode cX10_improve 21 = .ok (.invokevirtual 275, 3) := by decide +kernel
theorem dX10_improve_24 : decode cX10_improve 24 = .ok (.aload_n 0, 1) := by decide +kernel
theorem dX10_improve_25 : decode cX10_improve 25 = .ok (.getfield 81, 3) := by decide +kernel
theorem dX10_improve_28 : decode cX10_improve 28 = .ok (.invokevirtual 278, 3) := by decide +kernel
theorem dX10_improve_31 : decode cX10_improve 31 = .ok (.ifCond .ne 9, 3) := by decide +kernel
theorem dX10_improve_34 : decode cX10_improve 34 = .ok (.aload_n 0, 1) := by decide +kernel
theorem dX10_improve_35 : decode cX10_improve 35 = .ok (.iconst 5, 1) := by decide +kernel
theorem dX10_improve_36 : decode cX10_improve 36 = .ok (.invokevirtual 112, 3) := by decide +kernel
theorem dX10_improve_39 : decode cX10_improve 39 = .ok (.ireturn, 1) := by decide +kernel
theorem dX10_improve_40 : decode cX10_improve 40 = .ok (.aload_n 0, 1) := by decide +kernel
theorem dX10_improve_41 : decode cX10_improve 41 = .ok (.getfield 71, 3) := by decide +kernel
theorem dX10_improve_44 : decode cX10_improve 44 = .ok (.aload_n 0, 1) := by decide +kernel
theorem dX10_improve_45 : decode cX10_improve 45 = .ok (.getfield 19, 3) := by decide +kernel
theorem dX10_improve_48 : decode cX10_improve 48 = .ok (.aload_n 0, 1) := by decide +kernel
theorem dX10_improve_49 : decode cX10_improve 49 = .ok (.getfield 64, 3) := by decide +kernel
theorem dX10_improve_52 : decode cX10_improve 52 = .ok (.invokevirtual 329, 3) := by decide +kernel
theorem dX10_improve_55 : decode cX10_improve 55 = .ok (.aload_n 0, 1) := by decide +kernel
theorem dX10_improve_56 : decode cX10_improve 56 = .ok (.getfield 64, 3) := by decide +kernel
theorem dX10_improve_59 : decode cX10_improve 59 = .ok (.aload_n 0, 1) := by decide +kernel
theorem dX10_improve_60 : decode cX10_improve 60 = .ok (.getfield 81, 3) := by decide +kernel
theorem dX10_improve_63 : decode cX10_improve 63 = .ok (.invokevirtual 275, 3) := by decide +kernel
theorem dX10_improve_66 : decode cX10_improve 66 = .ok (.aload_n 0, 1) := by decide +kernel
theorem dX10_improve_67 : decode cX10_improve 67 = .ok (.aload_n 0, 1) := by decide +kernel
theorem dX10_improve_68 : decode cX10_improve 68 = .ok (.getfield 64, 3) := by decide +kernel
theorem dX10_improve_71 : decode cX10_improve 71 = .ok (.invokevirtual 269, 3) := by decide +kernel
theorem dX10_improve_74 : decode cX10_improve 74 = .ok (.invokevirtual 132, 3) := by decide +kernel
theorem dX10_improve_77 : decode cX10_improve 77 = .ok (.ireturn, 1) := by decide +kernel
theorem dX10_undo_0 : decode cX10_undo 0 = .ok (.aload_n 0, 1) := by decide +kernel
theorem dX10_undo_1 : decode cX10_undo 1 = .ok (.getfield 71, 3) := by decide +kernel
theorem dX10_undo_4 : decode cX10_undo 4 = .ok (.getfield 344, 3) := by decide +kernel
theorem dX10_undo_7 : decode cX10_undo 7 = .ok (.ifCond .ne 11, 3) := by decide +kernel
theorem dX10_undo_10 : decode cX10_undo 10 = .ok (.aload_n 0, 1) := by decide +kernel
theorem dX10_undo_11 : decode cX10_undo 11 = .ok (.iconst 1, 1) := by decide +kernel
theorem dX10_undo_12 : decode cX10_undo 12 = .ok (.invokevirtual 112, 3) := by decide +kernel
theorem dX10_undo_15 : decode cX10_undo 15 = .ok (.pop, 1) := by decide +kernel
theorem dX10_undo_16 : decode cX10_undo 16 = .ok (.iconst 0, 1) := by decide +kernel
theorem dX10_undo_17 : decode cX10_undo 17 = .ok (.ireturn, 1) := by decide +kernel
theorem dX10_undo_18 : decode cX10_undo 18 = .ok (.aload_n 0, 1) := by decide +kernel
theorem dX10_undo_19 : decode cX10_undo 19 = .ok (.getfield 71, 3) := by decide +kernel
theorem dX10_undo_22 : decode cX10_undo 22 = .ok (.aload_n 0, 1) := by decide +kernel
theorem dX10_undo_23 : decode cX10_undo 23 = .ok (.getfield 19, 3) := by decide +kernel
theorem dX10_undo_26 : decode cX10_undo 26 = .ok (.aload_n 0, 1) := by decide +kernel
theorem dX10_undo_27 : decode cX10_undo 27 = .ok (.getfield 81, 3) := by decide +kernel
theorem dX10_undo_30 : decode cX10_undo 30 = .ok (.invokevirtual 347, 3) := by decide +kernel
theorem dX10_undo_33 : decode cX10_undo 33 = .ok (.aload_n 0, 1) := by decide +kernel
theorem dX10_undo_34 : decode cX10_undo 34 = .ok (.invokevirtual 126, 3) := by decide +kernel
theorem dX10_undo_37 : decode cX10_undo 37 = .ok (.aload_n 0, 1) := by decide +kernel
theorem dX10_undo_38 : decode cX10_undo 38 = .ok (.getfield 64, 3) := by decide +kernel
theorem dX10_undo_41 : decode cX10_undo 41 = .ok (.aload_n 0, 1) := by decide +kernel
theorem dX10_undo_42 : decode cX10_undo 42 = .ok (.getfield 81, 3) := by decide +kernel
theorem dX10_undo_45 : decode cX10_undo 45 = .ok (.invokevirtual 275, 3) := by decide +kernel
theorem dX10_undo_48 : decode cX10_undo 48 = .ok (.aload_n 0, 1) := by decide +kernel
theorem dX10_undo_49 : decode cX10_undo 49 = .ok (.iconst 0, 1) := by decide +kernel
theorem dX10_undo_50 : decode cX10_undo 50 = .ok (.invokevirtual 132, 3) := by decide +kernel
theorem dX10_undo_53 : decode cX10_undo 53 = .ok (.pop, 1) := by decide +kernel
theorem dX10_undo_54 : decode cX10_undo 54 = .ok (.iconst 1, 1) := by decide +kernel
theorem dX10_undo_55 : decode cX10_undo 55 = .ok (.ireturn, 1) := by decide +kernel
theorem dX10_loose_0 : decode cX10_loose 0 = .ok (.aload_n 0, 1) := by decide +kernel
theorem dX10_loose_1 : decode cX10_loose 1 = .ok (.getfield 93, 3) := by decide +kernel
theorem dX10_loose_4 : decode cX10_loose 4 = .ok (.ifCond .eq 14, 3) := by decide +kernel
theorem dX10_loose_7 : decode cX10_loose 7 = .ok (.aload_n 0, 1) := by decide +kernel
theorem dX10_loose_8 : decode cX10_loose 8 = .ok (.getfield 28, 3) := by decide +kernel
theorem dX10_loose_11 : decode cX10_loose 11 = .ok (.iload_n 1, 1) := by decide +kernel
theorem dX10_loose_12 : decode cX10_loose 12 = .ok (.invokevirtual 350, 3) := by decide +kernel
theorem dX10_loose_15 : decode cX10_loose 15 = .ok (.goto 4, 3) := by decide +kernel
theorem dX10_loose_18 : decode cX10_loose 18 = .ok (.iconst (-1), 1) := by decide +kernel
theorem dX10_loose_19 : decode cX10_loose 19 = .ok (.istore_n 2, 1) := by decide +kernel
theorem dX10_loose_20 : decode cX10_loose 20 = .ok (.iload_n 2, 1) := by decide +kernel
theorem dX10_loose_21 : decode cX10_loose 21 = .ok (.iconst (-1), 1) := by decide +kernel
theorem dX10_loose_22 : decode cX10_loose 22 = .ok (.if_icmp .ne 14, 3) := by decide +kernel
theorem dX10_loose_25 : decode cX10_loose 25 = .ok (.new 353, 3) := by decide +kernel
theorem dX10_loose_28 : decode cX10_loose 28 = .ok (.dup, 1) := by decide +kernel
theorem dX10_loose_29 : decode cX10_loose 29 = .ok (.ldc_w 355, 3) := by decide +kernel
theorem dX10_loose_32 : decode cX10_loose 32 = .ok (.invokespecial 357, 3) := by decide +kernel
theorem dX10_loose_35 : decode cX10_loose 35 = .ok (.athrow, 1) := by decide +kernel
theorem dX10_loose_36 : decode cX10_loose 36 = .ok (.iload_n 2, 1) := by decide +kernel
theorem dX10_loose_37 : decode cX10_loose 37 = .ok (.ireturn, 1) := by decide +kernel
theorem dX10_size_0 : decode cX10_size 0 = .ok (.iload_n 1, 1) := by decide +kernel
theorem dX10_size_1 : decode cX10_size 1 = .ok (.tableswitch 62 0 2 #[27, 35, 43], 27) := by decide +kernel
theorem dX10_size_28 : decode cX10_size 28 = .ok (.aload_n 0, 1) := by decide +kernel
theorem dX10_size_29 : decode cX10_size 29 = .ok (.getfield 12, 3) := by decide +kernel
theorem dX10_size_32 : decode cX10_size 32 = .ok (.getfield 109, 3) := by decide +kernel
theorem dX10_size_35 : decode cX10_size 35 = .ok (.ireturn, 1) := by decide +kernel
theorem dX10_size_36 : decode cX10_size 36 = .ok (.aload_n 0, 1) := by decide +kernel
theorem dX10_size_37 : decode cX10_size 37 = .ok (.getfield 71, 3) := by decide +kernel
theorem dX10_size_40 : decode cX10_size 40 = .ok (.getfield 344, 3) := by decide +kernel
theorem dX10_size_43 : decode cX10_size 43 = .ok (.ireturn, 1) := by decide +kernel
theorem dX10_size_44 : decode cX10_size 44 = .ok (.aload_n 0, 1) := by decide +kernel
theorem dX10_size_45 : decode cX10_size 45 = .ok (.getfield 93, 3) := by decide +kernel
theorem dX10_size_48 : decode cX10_size 48 = .ok (.ifCond .eq 13, 3) := by decide +kernel
theorem dX10_size_51 : decode cX10_size 51 = .ok (.aload_n 0, 1) := by decide +kernel
theorem dX10_size_52 : decode cX10_size 52 = .ok (.getfield 37, 3) := by decide +kernel
theorem dX10_size_55 : decode cX10_size 55 = .ok (.getfield 223, 3) := by decide +kernel
theorem dX10_size_58 : decode cX10_size 58 = .ok (.goto 4, 3) := by decide +kernel
theorem dX10_size_61 : decode cX10_size 61 = .ok (.iconst 0, 1) := by decide +kernel
theorem dX10_size_62 : decode cX10_size 62 = .ok (.ireturn, 1) := by decide +kernel
theorem dX10_size_63 : decode cX10_size 63 = .ok (.iconst (-1), 1) := by decide +kernel
theorem dX10_size_64 : decode cX10_size 64 = .ok (.ireturn, 1) := by decide +kernel
theorem dX10_trouble_0 : decode cX10_trouble 0 = .ok (.aload_n 0, 1) := by decide +kernel
theorem dX10_trouble_1 : decode cX10_trouble 1 = .ok (.getfield 97, 3) := by decide +kernel
theorem dX10_trouble_4 : decode cX10_trouble 4 = .ok (.ireturn, 1) := by decide +kernel
theorem dX10_told_0 : decode cX10_told 0 = .ok (.aload_n 0, 1) := by decide +kernel
theorem dX10_told_1 : decode cX10_told 1 = .ok (.iconst 0, 1) := by decide +kernel
theorem dX10_told_2 : decode cX10_told 2 = .ok (.putfield 97, 3) := by decide +kernel
theorem dX10_told_5 : decode cX10_told 5 = .ok (.iload_n 1, 1) := by decide +kernel
theorem dX10_told_6 : decode cX10_told 6 = .ok (.ireturn, 1) := by decide +kernel
theorem dX10_refused_0 : decode cX10_refused 0 = .ok (.aload_n 0, 1) := by decide +kernel
theorem dX10_refused_1 : decode cX10_refused 1 = .ok (.iload_n 1, 1) := by decide +kernel
theorem dX10_refused_2 : decode cX10_refused 2 = .ok (.putfield 97, 3) := by decide +kernel
theorem dX10_refused_5 : decode cX10_refused 5 = .ok (.iconst (-1), 1) := by decide +kernel
theorem dX10_refused_6 : decode cX10_refused 6 = .ok (.ireturn, 1) := by decide +kernel
theorem dX10_hasStroke_0 : decode cX10_hasStroke 0 = .ok (.aload_n 0, 1) := by decide +kernel
theorem dX10_hasStroke_1 : decode cX10_hasStroke 1 = .ok (.getfield 93, 3) := by decide +kernel
theorem dX10_hasStroke_4 : decode cX10_hasStroke 4 = .ok (.ifCond .eq 22, 3) := by decide +kernel
theorem dX10_hasStroke_7 : decode cX10_hasStroke 7 = .ok (.iload_n 1, 1) := by decide +kernel
theorem dX10_hasStroke_8 : decode cX10_hasStroke 8 = .ok (.ifCond .lt 18, 3) := by decide +kernel
theorem dX10_hasStroke_11 : decode cX10_hasStroke 11 = .ok (.iload_n 1, 1) := by decide +kernel
theorem dX10_hasStroke_12 : decode cX10_hasStroke 12 = .ok (.aload_n 0, 1) := by decide +kernel
theorem dX10_hasStroke_13 : decode cX10_hasStroke 13 = .ok (.getfield 19, 3) := by decide +kernel
theorem dX10_hasStroke_16 : decode cX10_hasStroke 16 = .ok (.getfield 129, 3) := by decide +kernel
theorem dX10_hasStroke_19 : decode cX10_hasStroke 19 = .ok (.if_icmp .ge 7, 3) := by decide +kernel
theorem dX10_hasStroke_22 : decode cX10_hasStroke 22 = .ok (.iconst 1, 1) := by decide +kernel
theorem dX10_hasStroke_23 : decode cX10_hasStroke 23 = .ok (.goto 4, 3) := by decide +kernel
theorem dX10_hasStroke_26 : decode cX10_hasStroke 26 = .ok (.iconst 0, 1) := by decide +kernel
theorem dX10_hasStroke_27 : decode cX10_hasStroke 27 = .ok (.ireturn, 1) := by decide +kernel
theorem dX10_hasPart_0 : decode cX10_hasPart 0 = .ok (.aload_n 0, 1) := by decide +kernel
theorem dX10_hasPart_1 : decode cX10_hasPart 1 = .ok (.getfield 93, 3) := by decide +kernel
theorem dX10_hasPart_4 : decode cX10_hasPart 4 = .ok (.ifCond .eq 22, 3) := by decide +kernel
theorem dX10_hasPart_7 : decode cX10_hasPart 7 = .ok (.iload_n 1, 1) := by decide +kernel
theorem dX10_hasPart_8 : decode cX10_hasPart 8 = .ok (.ifCond .lt 18, 3) := by decide +kernel
theorem dX10_hasPart_11 : decode cX10_hasPart 11 = .ok (.iload_n 1, 1) := by decide +kernel
theorem dX10_hasPart_12 : decode cX10_hasPart 12 = .ok (.aload_n 0, 1) := by decide +kernel
theorem dX10_hasPart_13 : decode cX10_hasPart 13 = .ok (.getfield 28, 3) := by decide +kernel
theorem dX10_hasPart_16 : decode cX10_hasPart 16 = .ok (.invokevirtual 163, 3) := by decide +kernel
theorem dX10_hasPart_19 : decode cX10_hasPart 19 = .ok (.if_icmp .ge 7, 3) := by decide +kernel
theorem dX10_hasPart_22 : decode cX10_hasPart 22 = .ok (.iconst 1, 1) := by decide +kernel
theorem dX10_hasPart_23 : decode cX10_hasPart 23 = .ok (.goto 4, 3) := by decide +kernel
theorem dX10_hasPart_26 : decode cX10_hasPart 26 = .ok (.iconst 0, 1) := by decide +kernel
theorem dX10_hasPart_27 : decode cX10_hasPart 27 = .ok (.ireturn, 1) := by decide +kernel
theorem dX10_hasPlace_0 : decode cX10_hasPlace 0 = .ok (.aload_n 0, 1) := by decide +kernel
theorem dX10_hasPlace_1 : decode cX10_hasPlace 1 = .ok (.getfield 93, 3) := by decide +kernel
theorem dX10_hasPlace_4 : decode cX10_hasPlace 4 = .ok (.ifCond .eq 22, 3) := by decide +kernel
theorem dX10_hasPlace_7 : decode cX10_hasPlace 7 = .ok (.iload_n 1, 1) := by decide +kernel
theorem dX10_hasPlace_8 : decode cX10_hasPlace 8 = .ok (.ifCond .lt 18, 3) := by decide +kernel
theorem dX10_hasPlace_11 : decode cX10_hasPlace 11 = .ok (.iload_n 1, 1) := by decide +kernel
theorem dX10_hasPlace_12 : decode cX10_hasPlace 12 = .ok (.aload_n 0, 1) := by decide +kernel
theorem dX10_hasPlace_13 : decode cX10_hasPlace 13 = .ok (.getfield 64, 3) := by decide +kernel
theorem dX10_hasPlace_16 : decode cX10_hasPlace 16 = .ok (.getfield 360, 3) := by decide +kernel
theorem dX10_hasPlace_19 : decode cX10_hasPlace 19 = .ok (.if_icmp .ge 7, 3) := by decide +kernel
theorem dX10_hasPlace_22 : decode cX10_hasPlace 22 = .ok (.iconst 1, 1) := by decide +kernel
theorem dX10_hasPlace_23 : decode cX10_hasPlace 23 = .ok (.goto 4, 3) := by decide +kernel
theorem dX10_hasPlace_26 : decode cX10_hasPlace 26 = .ok (.iconst 0, 1) := by decide +kernel
theorem dX10_hasPlace_27 : decode cX10_hasPlace 27 = .ok (.ireturn, 1) := by decide +kernel
theorem dX10_isPace_0 : decode cX10_isPace 0 = .ok (.iload_n 1, 1) := by decide +kernel
theorem dX10_isPace_1 : decode cX10_isPace 1 = .ok (.iconst 1, 1) := by decide +kernel
theorem dX10_isPace_2 : decode cX10_isPace 2 = .ok (.if_icmp .lt 13, 3) := by decide +kernel
theorem dX10_isPace_5 : decode cX10_isPace 5 = .ok (.iload_n 1, 1) := by decide +kernel
theorem dX10_isPace_6 : decode cX10_isPace 6 = .ok (.bipush 9, 2) := by decide +kernel
theorem dX10_isPace_8 : decode cX10_isPace 8 = .ok (.if_icmp .gt 7, 3) := by decide +kernel
theorem dX10_isPace_11 : decode cX10_isPace 11 = .ok (.iconst 1, 1) := by decide +kernel
theorem dX10_isPace_12 : decode cX10_isPace 12 = .ok (.goto 4, 3) := by decide +kernel
theorem dX10_isPace_15 : decode cX10_isPace 15 = .ok (.iconst 0, 1) := by decide +kernel
theorem dX10_isPace_16 : decode cX10_isPace 16 = .ok (.ireturn, 1) := by decide +kernel
theorem dX10_whyNoStroke_0 : decode cX10_whyNoStroke 0 = .ok (.aload_n 0, 1) := by decide +kernel
theorem dX10_whyNoStroke_1 : decode cX10_whyNoStroke 1 = .ok (.getfield 93, 3) := by decide +kernel
theorem dX10_whyNoStroke_4 : decode cX10_whyNoStroke 4 = .ok (.ifCond .ne 5, 3) := by decide +kernel
theorem dX10_whyNoStroke_7 : decode cX10_whyNoStroke 7 = .ok (.iconst 1, 1) := by decide +kernel
theorem dX10_whyNoStroke_8 : decode cX10_whyNoStroke 8 = .ok (.ireturn, 1) := by decide +kernel
theorem dX10_whyNoStroke_9 : decode cX10_whyNoStroke 9 = .ok (.aload_n 0, 1) := by decide +kernel
theorem dX10_whyNoStroke_10 : decode cX10_whyNoStroke 10 = .ok (.getfield 19, 3) := by decide +kernel
theorem dX10_whyNoStroke_13 : decode cX10_whyNoStroke 13 = .ok (.iload_n 1, 1) := by decide +kernel
theorem dX10_whyNoStroke_14 : decode cX10_whyNoStroke 14 = .ok (.iload_n 2, 1) := by decide +kernel
theorem dX10_whyNoStroke_15 : decode cX10_whyNoStroke 15 = .ok (.invokevirtual 333, 3) := by decide +kernel
theorem dX10_whyNoStroke_18 : decode cX10_whyNoStroke 18 = .ok (.ifCond .eq 27, 3) := by decide +kernel
theorem dX10_whyNoStroke_21 : decode cX10_whyNoStroke 21 = .ok (.aload_n 0, 1) := by decide +kernel
theorem dX10_whyNoStroke_22 : decode cX10_whyNoStroke 22 = .ok (.getfield 19, 3) := by decide +kernel
theorem dX10_whyNoStroke_25 : decode cX10_whyNoStroke 25 = .ok (.iload_n 3, 1) := by decide +kernel
theorem dX10_whyNoStroke_26 : decode cX10_whyNoStroke 26 = .ok (.iload 4, 2) := by decide +kernel
theorem dX10_whyNoStroke_28 : decode cX10_whyNoStroke 28 = .ok (.invokevirtual 333, 3) := by decide +kernel
theorem dX10_whyNoStroke_31 : decode cX10_whyNoStroke 31 = .ok (.ifCond .eq 14, 3) := by decide +kernel
theorem dX10_whyNoStroke_34 : decode cX10_whyNoStroke 34 = .ok (.iload_n 1, 1) := by decide +kernel
theorem dX10_whyNoStroke_35 : decode cX10_whyNoStroke 35 = .ok (.iload_n 3, 1) := by decide +kernel
theorem dX10_whyNoStroke_36 : decode cX10_whyNoStroke 36 = .ok (.if_icmp .ne 11, 3) := by decide +kernel
theorem dX10_whyNoStroke_39 : decode cX10_whyNoStroke 39 = .ok (.iload_n 2, 1) := by decide +kernel
theorem dX10_whyNoStroke_40 : decode cX10_whyNoStroke 40 = .ok (.iload 4, 2) := by decide +kernel
theorem dX10_whyNoStroke_42 : decode cX10_whyNoStroke 42 = .ok (.if_icmp .ne 5, 3) := by decide +kernel
theorem dX10_whyNoStroke_45 : decode cX10_whyNoStroke 45 = .ok (.iconst 2, 1) := by decide +kernel
theorem dX10_whyNoStroke_46 : decode cX10_whyNoStroke 46 = .ok (.ireturn, 1) := by decide +kernel
theorem dX10_whyNoStroke_47 : decode cX10_whyNoStroke 47 = .ok (.aload_n 0, 1) := by decide +kernel
theorem dX10_whyNoStroke_48 : decode cX10_whyNoStroke 48 = .ok (.getfield 19, 3) := by decide +kernel
theorem dX10_whyNoStroke_51 : decode cX10_whyNoStroke 51 = .ok (.getfield 129, 3) := by decide +kernel
theorem dX10_whyNoStroke_54 : decode cX10_whyNoStroke 54 = .ok (.bipush 24, 2) := by decide +kernel
theorem dX10_whyNoStroke_56 : decode cX10_whyNoStroke 56 = .ok (.if_icmp .ge 7, 3) := by decide +kernel
theorem dX10_whyNoStroke_59 : decode cX10_whyNoStroke 59 = .ok (.iconst 0, 1) := by decide +kernel
theorem dX10_whyNoStroke_60 : decode cX10_whyNoStroke 60 = .ok (.goto 4, 3) := by decide +kernel
theorem dX10_whyNoStroke_63 : decode cX10_whyNoStroke 63 = .ok (.iconst 3, 1) := by decide +kernel
theorem dX10_whyNoStroke_64 : decode cX10_whyNoStroke 64 = .ok (.ireturn, 1) := by decide +kernel
theorem dX10_trailsOfOther_0 : decode cX10_trailsOfOther 0 = .ok (.aload_n 0, 1) := by decide +kernel
theorem dX10_trailsOfOther_1 : decode cX10_trailsOfOther 1 = .ok (.getfield 78, 3) := by decide +kernel
theorem dX10_trailsOfOther_4 : decode cX10_trailsOfOther 4 = .ok (.iload_n 1, 1) := by decide +kernel
theorem dX10_trailsOfOther_5 : decode cX10_trailsOfOther 5 = .ok (.invokevirtual 361, 3) := by decide +kernel
theorem dX10_trailsOfOther_8 : decode cX10_trailsOfOther 8 = .ok (.aload_n 0, 1) := by decide +kernel
theorem dX10_trailsOfOther_9 : decode cX10_trailsOfOther 9 = .ok (.getfield 78, 3) := by decide +kernel
theorem dX10_trailsOfOther_12 : decode cX10_trailsOfOther 12 = .ok (.invokevirtual 364, 3) := by decide +kernel
theorem dX10_trailsOfOther_15 : decode cX10_trailsOfOther 15 = .ok (.ireturn, 1) := by decide +kernel
theorem dX10_leastJoinFor_0 : decode cX10_leastJoinFor 0 = .ok (.iconst (-1), 1) := by decide +kernel
theorem dX10_leastJoinFor_1 : decode cX10_leastJoinFor 1 = .ok (.istore_n 2, 1) := by decide +kernel
theorem dX10_leastJoinFor_2 : decode cX10_leastJoinFor 2 = .ok (.bipush 32, 2) := by decide +kernel
theorem dX10_leastJoinFor_4 : decode cX10_leastJoinFor 4 = .ok (.istore_n 3, 1) := by decide +kernel
theorem dX10_leastJoinFor_5 : decode cX10_leastJoinFor 5 = .ok (.iload_n 3, 1) := by decide +kernel
theorem dX10_leastJoinFor_6 : decode cX10_leastJoinFor 6 = .ok (.ifCond .le 35, 3) := by decide +kernel
theorem dX10_leastJoinFor_9 : decode cX10_leastJoinFor 9 = .ok (.iload_n 2, 1) := by decide +kernel
theorem dX10_leastJoinFor_10 : decode cX10_leastJoinFor 10 = .ok (.iload_n 3, 1) := by decide +kernel
theorem dX10_leastJoinFor_11 : decode cX10_leastJoinFor 11 = .ok (.iadd, 1) := by decide +kernel
theorem dX10_leastJoinFor_12 : decode cX10_leastJoinFor 12 = .ok (.istore 4, 2) := by decide +kernel
theorem dX10_leastJoinFor_14 : decode cX10_leastJoinFor 14 = .ok (.iload 4, 2) := by decide +kernel
theorem dX10_leastJoinFor_16 : decode cX10_leastJoinFor 16 = .ok (.bipush 50, 2) := by decide +kernel
theorem dX10_leastJoinFor_18 : decode cX10_leastJoinFor 18 = .ok (.if_icmp .gt 16, 3) := by decide +kernel
theorem dX10_leastJoinFor_21 : decode cX10_leastJoinFor 21 = .ok (.aload_n 0, 1) := by decide +kernel
theorem dX10_leastJoinFor_22 : decode cX10_leastJoinFor 22 = .ok (.iload 4, 2) := by decide +kernel
theorem dX10_leastJoinFor_24 : decode cX10_leastJoinFor 24 = .ok (.invokevirtual 320, 3) := by decide +kernel
theorem dX10_leastJoinFor_27 : decode cX10_leastJoinFor 27 = .ok (.iload_n 1, 1) := by decide +kernel
theorem dX10_leastJoinFor_28 : decode cX10_leastJoinFor 28 = .ok (.if_icmp .le 6, 3) := by decide +kernel
theorem dX10_leastJoinFor_31 : decode cX10_leastJoinFor 31 = .ok (.iload 4, 2) := by decide +kernel
theorem dX10_leastJoinFor_33 : decode cX10_leastJoinFor 33 = .ok (.istore_n 2, 1) := by decide +kernel
theorem dX10_leastJoinFor_34 : decode cX10_leastJoinFor 34 = .ok (.iload_n 3, 1) := by decide +kernel
theorem dX10_leastJoinFor_35 : decode cX10_leastJoinFor 35 = .ok (.iconst 2, 1) := by decide +kernel
theorem dX10_leastJoinFor_36 : decode cX10_leastJoinFor 36 = .ok (.idiv, 1) := by decide +kernel
theorem dX10_leastJoinFor_37 : decode cX10_leastJoinFor 37 = .ok (.istore_n 3, 1) := by decide +kernel
theorem dX10_leastJoinFor_38 : decode cX10_leastJoinFor 38 = .ok (.goto (-33), 3) := by decide +kernel
theorem dX10_leastJoinFor_41 : decode cX10_leastJoinFor 41 = .ok (.iload_n 2, 1) := by decide +kernel
theorem dX10_leastJoinFor_42 : decode cX10_leastJoinFor 42 = .ok (.iconst 1, 1) := by decide +kernel
theorem dX10_leastJoinFor_43 : decode cX10_leastJoinFor 43 = .ok (.iadd, 1) := by decide +kernel
theorem dX10_leastJoinFor_44 : decode cX10_leastJoinFor 44 = .ok (.ireturn, 1) := by decide +kernel
theorem dX10_startPlan_0 : decode cX10_startPlan 0 = .ok (.aload_n 0, 1) := by decide +kernel
theorem dX10_startPlan_1 : decode cX10_startPlan 1 = .ok (.getfield 28, 3) := by decide +kernel
theorem dX10_startPlan_4 : decode cX10_startPlan 4 = .ok (.aload_n 0, 1) := by decide +kernel
theorem dX10_startPlan_5 : decode cX10_startPlan 5 = .ok (.getfield 19, 3) := by decide +kernel
theorem dX10_startPlan_8 : decode cX10_startPlan 8 = .ok (.getfield 144, 3) := by decide +kernel
theorem dX10_startPlan_11 : decode cX10_startPlan 11 = .ok (.invokevirtual 361, 3) := by decide +kernel
theorem dX10_startPlan_14 : decode cX10_startPlan 14 = .ok (.aload_n 0, 1) := by decide +kernel
theorem dX10_startPlan_15 : decode cX10_startPlan 15 = .ok (.getfield 37, 3) := by decide +kernel
theorem dX10_startPlan_18 : decode cX10_startPlan 18 = .ok (.invokevirtual 367, 3) := by decide +kernel
theorem dX10_startPlan_21 : decode cX10_startPlan 21 = .ok (.aload_n 0, 1) := by decide +kernel
theorem dX10_startPlan_22 : decode cX10_startPlan 22 = .ok (.getfield 46, 3) := by decide +kernel
theorem dX10_startPlan_25 : decode cX10_startPlan 25 = .ok (.invokevirtual 369, 3) := by decide +kernel
theorem dX10_startPlan_28 : decode cX10_startPlan 28 = .ok (.aload_n 0, 1) := by decide +kernel
theorem dX10_startPlan_29 : decode cX10_startPlan 29 = .ok (.getfield 55, 3) := by decide +kernel
theorem dX10_startPlan_32 : decode cX10_startPlan 32 = .ok (.invokevirtual 370, 3) := by decide +kernel
theorem dX10_startPlan_35 : decode cX10_startPlan 35 = .ok (.aload_n 0, 1) := by decide +kernel
theorem dX10_startPlan_36 : decode cX10_startPlan 36 = .ok (.getfield 64, 3) := by decide +kernel
theorem dX10_startPlan_39 : decode cX10_startPlan 39 = .ok (.invokevirtual 272, 3) := by decide +kernel
theorem dX10_startPlan_42 : decode cX10_startPlan 42 = .ok (.return_, 1) := by decide +kernel
