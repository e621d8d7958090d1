theorem dX11_pairsBest_67 : decode cX11_pairsBest 67 = .ok (.iconst 1, 1) := by decide +kernel
theorem dX11_pairsBest_68 : decode cX11_pairsBest 68 = .ok (.if_icmp .ne 81, 3) := by decide +kernel
theorem dX11_pairsBest_71 : decode cX11_pairsBest 71 = .ok (.aload_n 0, 1) := by decide +kernel
theorem dX11_pairsBest_72 : decode cX11_pairsBest 72 = .ok (.getfield 56, 3) := by decide +kernel
theorem dX11_pairsBest_75 : decode cX11_pairsBest 75 = .ok (.iload 5, 2) := by decide +kernel
theorem dX11_pairsBest_77 : decode cX11_pairsBest 77 = .ok (.iaload, 1) := by decide +kernel
theorem dX11_pairsBest_78 : decode cX11_pairsBest 78 = .ok (.ldc_w 283, 3) := by decide +kernel
theorem dX11_pairsBest_81 : decode cX11_pairsBest 81 = .ok (.if_icmp .ge 68, 3) := by decide +kernel
theorem dX11_pairsBest_84 : decode cX11_pairsBest 84 = .ok (.aload_n 0, 1) := by decide +kernel
theorem dX11_pairsBest_85 : decode cX11_pairsBest 85 = .ok (.getfield 56, 3) := by decide +kernel
theorem dX11_pairsBest_88 : decode cX11_pairsBest 88 = .ok (.iload 5, 2) := by decide +kernel
theorem dX11_pairsBest_90 : decode cX11_pairsBest 90 = .ok (.iaload, 1) := by decide +kernel
theorem dX11_pairsBest_91 : decode cX11_pairsBest 91 = .ok (.aload_n 0, 1) := by decide +kernel
theorem dX11_pairsBest_92 : decode cX11_pairsBest 92 = .ok (.aload_n 0, 1) := by decide +kernel
theorem dX11_pairsBest_93 : decode cX11_pairsBest 93 = .ok (.getfield 53, 3) := by decide +kernel
theorem dX11_pairsBest_96 : decode cX11_pairsBest 96 = .ok (.iload_n 3, 1) := by decide +kernel
theorem dX11_pairsBest_97 : decode cX11_pairsBest 97 = .ok (.iaload, 1) := by decide +kernel
theorem dX11_pairsBest_98 : decode cX11_pairsBest 98 = .ok (.aload_n 0, 1) := by decide +kernel
theorem dX11_pairsBest_99 : decode cX11_pairsBest 99 = .ok (.getfield 53, 3) := by decide +kernel
theorem dX11_pairsBest_102 : decode cX11_pairsBest 102 = .ok (.iload 4, 2) := by decide +kernel
theorem dX11_pairsBest_104 : decode cX11_pairsBest 104 = .ok (.iaload, 1) := by decide +kernel
theorem dX11_pairsBest_105 : decode cX11_pairsBest 105 = .ok (.invokevirtual 277, 3) := by decide +kernel
theorem dX11_pairsBest_108 : decode cX11_pairsBest 108 = .ok (.iadd, 1) := by decide +kernel
theorem dX11_pairsBest_109 : decode cX11_pairsBest 109 = .ok (.aload_n 0, 1) := by decide +kernel
theorem dX11_pairsBest_110 : decode cX11_pairsBest 110 = .ok (.getfield 56, 3) := by decide +kernel
theorem dX11_pairsBest_113 : decode cX11_pairsBest 113 = .ok (.iload_n 2, 1) := by decide +kernel
theorem dX11_pairsBest_114 : decode cX11_pairsBest 114 = .ok (.iaload, 1) := by decide +kernel
theorem dX11_pairsBest_115 : decode cX11_pairsBest 115 = .ok (.if_icmp .ge 34, 3) := by decide +kernel
theorem dX11_pairsBest_118 : decode cX11_pairsBest 118 = .ok (.aload_n 0, 1) := by decide +kernel
theorem dX11_pairsBest_119 : decode cX11_pairsBest 119 = .ok (.getfield 56, 3) := by decide +kernel
theorem dX11_pairsBest_122 : decode cX11_pairsBest 122 = .ok (.iload_n 2, 1) := by decide +kernel
theorem dX11_pairsBest_123 : decode cX11_pairsBest 123 = .ok (.aload_n 0, 1) := by decide +kernel
theorem dX11_pairsBest_124 : decode cX11_pairsBest 124 = .ok (.getfield 56, 3) := by decide +kernel
theorem dX11_pairsBest_127 : decode cX11_pairsBest 127 = .ok (.iload 5, 2) := by decide +kernel
theorem dX11_pairsBest_129 : decode cX11_pairsBest 129 = .ok (.iaload, 1) := by decide +kernel
theorem dX11_pairsBest_130 : decode cX11_pairsBest 130 = .ok (.aload_n 0, 1) := by decide +kernel
theorem dX11_pairsBest_131 : decode cX11_pairsBest 131 = .ok (.aload_n 0, 1) := by decide +kernel
theorem dX11_pairsBest_132 : decode cX11_pairsBest 132 = .ok (.getfield 53, 3) := by decide +kernel
theorem dX11_pairsBest_135 : decode cX11_pairsBest 135 = .ok (.iload_n 3, 1) := by decide +kernel
theorem dX11_pairsBest_136 : decode cX11_pairsBest 136 = .ok (.iaload, 1) := by decide +kernel
theorem dX11_pairsBest_137 : decode cX11_pairsBest 137 = .ok (.aload_n 0, 1) := by decide +kernel
theorem dX11_pairsBest_138 : decode cX11_pairsBest 138 = .ok (.getfield 53, 3) := by decide +kernel
theorem dX11_pairsBest_141 : decode cX11_pairsBest 141 = .ok (.iload 4, 2) := by decide +kernel
theorem dX11_pairsBest_143 : decode cX11_pairsBest 143 = .ok (.iaload, 1) := by decide +kernel
theorem dX11_pairsBest_144 : decode cX11_pairsBest 144 = .ok (.invokevirtual 277, 3) := by decide +kernel
theorem dX11_pairsBest_147 : decode cX11_pairsBest 147 = .ok (.iadd, 1) := by decide +kernel
theorem dX11_pairsBest_148 : decode cX11_pairsBest 148 = .ok (.iastore, 1) := by decide +kernel
theorem dX11_pairsBest_149 : decode cX11_pairsBest 149 = .ok (.iinc 4 1, 3) := by decide +kernel
theorem dX11_pairsBest_152 : decode cX11_pairsBest 152 = .ok (.goto (-114), 3) := by decide +kernel
theorem dX11_pairsBest_155 : decode cX11_pairsBest 155 = .ok (.iinc 2 1, 3) := by decide +kernel
theorem dX11_pairsBest_158 : decode cX11_pairsBest 158 = .ok (.goto (-149), 3) := by decide +kernel
theorem dX11_pairsBest_161 : decode cX11_pairsBest 161 = .ok (.iconst 1, 1) := by decide +kernel
theorem dX11_pairsBest_162 : decode cX11_pairsBest 162 = .ok (.aload_n 0, 1) := by decide +kernel
theorem dX11_pairsBest_163 : decode cX11_pairsBest 163 = .ok (.getfield 261, 3) := by decide +kernel
theorem dX11_pairsBest_166 : decode cX11_pairsBest 166 = .ok (.ishl, 1) := by decide +kernel
theorem dX11_pairsBest_167 : decode cX11_pairsBest 167 = .ok (.iconst 1, 1) := by decide +kernel
theorem dX11_pairsBest_168 : decode cX11_pairsBest 168 = .ok (.isub, 1) := by decide +kernel
theorem dX11_pairsBest_169 : decode cX11_pairsBest 169 = .ok (.istore_n 2, 1) := by decide +kernel
theorem dX11_pairsBest_170 : decode cX11_pairsBest 170 = .ok (.iload_n 2, 1) := by decide +kernel
theorem dX11_pairsBest_171 : decode cX11_pairsBest 171 = .ok (.ifCond .eq 106, 3) := by decide +kernel
theorem dX11_pairsBest_174 : decode cX11_pairsBest 174 = .ok (.iload_n 2, 1) := by decide +kernel
theorem dX11_pairsBest_175 : decode cX11_pairsBest 175 = .ok (.invokestatic 280, 3) := by decide +kernel
theorem dX11_pairsBest_178 : decode cX11_pairsBest 178 = .ok (.istore_n 3, 1) := by decide +kernel
theorem dX11_pairsBest_179 : decode cX11_pairsBest 179 = .ok (.iload_n 3, 1) := by decide +kernel
theorem dX11_pairsBest_180 : decode cX11_pairsBest 180 = .ok (.iconst 1, 1) := by decide +kernel
theorem dX11_pairsBest_181 : decode cX11_pairsBest 181 = .ok (.iadd, 1) := by decide +kernel
theorem dX11_pairsBest_182 : decode cX11_pairsBest 182 = .ok (.istore 4, 2) := by decide +kernel
theorem dX11_pairsBest_184 : decode cX11_pairsBest 184 = .ok (.iload_n 2, 1) := by decide +kernel
theorem dX11_pairsBest_185 : decode cX11_pairsBest 185 = .ok (.iload 4, 2) := by decide +kernel
theorem dX11_pairsBest_187 : decode cX11_pairsBest 187 = .ok (.ishr, 1) := by decide +kernel
theorem dX11_pairsBest_188 : decode cX11_pairsBest 188 = .ok (.iconst 1, 1) := by decide +kernel
theorem dX11_pairsBest_189 : decode cX11_pairsBest 189 = .ok (.iand, 1) := by decide +kernel
theorem dX11_pairsBest_190 : decode cX11_pairsBest 190 = .ok (.ifCond .eq 47, 3) := by decide +kernel
theorem dX11_pairsBest_193 : decode cX11_pairsBest 193 = .ok (.aload_n 0, 1) := by decide +kernel
theorem dX11_pairsBest_194 : decode cX11_pairsBest 194 = .ok (.getfield 56, 3) := by decide +kernel
theorem dX11_pairsBest_197 : decode cX11_pairsBest 197 = .ok (.iload_n 2, 1) := by decide +kernel
theorem dX11_pairsBest_198 : decode cX11_pairsBest 198 = .ok (.iconst 1, 1) := by decide +kernel
theorem dX11_pairsBest_199 : decode cX11_pairsBest 199 = .ok (.iload_n 3, 1) := by decide +kernel
theorem dX11_pairsBest_200 : decode cX11_pairsBest 200 = .ok (.ishl, 1) := by decide +kernel
theorem dX11_pairsBest_201 : decode cX11_pairsBest 201 = .ok (.iconst 1, 1) := by decide +kernel
theorem dX11_pairsBest_202 : decode cX11_pairsBest 202 = .ok (.iload 4, 2) := by decide +kernel
theorem dX11_pairsBest_204 : decode cX11_pairsBest 204 = .ok (.ishl, 1) := by decide +kernel
theorem dX11_pairsBest_205 : decode cX11_pairsBest 205 = .ok (.ior, 1) := by decide +kernel
theorem dX11_pairsBest_206 : decode cX11_pairsBest 206 = .ok (.iconst (-1), 1) := by decide +kernel
theorem dX11_pairsBest_207 : decode cX11_pairsBest 207 = .ok (.ixor, 1) := by decide +kernel
theorem dX11_pairsBest_208 : decode cX11_pairsBest 208 = .ok (.iand, 1) := by decide +kernel
theorem dX11_pairsBest_209 : decode cX11_pairsBest 209 = .ok (.iaload, 1) := by decide +kernel
theorem dX11_pairsBest_210 : decode cX11_pairsBest 210 = .ok (.aload_n 0, 1) := by decide +kernel
theorem dX11_pairsBest_211 : decode cX11_pairsBest 211 = .ok (.aload_n 0, 1) := by decide +kernel
theorem dX11_pairsBest_212 : decode cX11_pairsBest 212 = .ok (.getfield 53, 3) := by decide +kernel
theorem dX11_pairsBest_215 : decode cX11_pairsBest 215 = .ok (.iload_n 3, 1) := by decide +kernel
theorem dX11_pairsBest_216 : decode cX11_pairsBest 216 = .ok (.iaload, 1) := by decide +kernel
theorem dX11_pairsBest_217 : decode cX11_pairsBest 217 = .ok (.aload_n 0, 1) := by decide +kernel
theorem dX11_pairsBest_218 : decode cX11_pairsBest 218 = .ok (.getfield 53, 3) := by decide +kernel
theorem dX11_pairsBest_221 : decode cX11_pairsBest 221 = .ok (.iload 4, 2) := by decide +kernel
theorem dX11_pairsBest_223 : decode cX11_pairsBest 223 = .ok (.iaload, 1) := by decide +kernel
theorem dX11_pairsBest_224 : decode cX11_pairsBest 224 = .ok (.invokevirtual 277, 3) := by decide +kernel
theorem dX11_pairsBest_227 : decode cX11_pairsBest 227 = .ok (.iadd, 1) := by decide +kernel
theorem dX11_pairsBest_228 : decode cX11_pairsBest 228 = .ok (.aload_n 0, 1) := by decide +kernel
theorem dX11_pairsBest_229 : decode cX11_pairsBest 229 = .ok (.getfield 56, 3) := by decide +kernel
theorem dX11_pairsBest_232 : decode cX11_pairsBest 232 = .ok (.iload_n 2, 1) := by decide +kernel
theorem dX11_pairsBest_233 : decode cX11_pairsBest 233 = .ok (.iaload, 1) := by decide +kernel
theorem dX11_pairsBest_234 : decode cX11_pairsBest 234 = .ok (.if_icmp .eq 9, 3) := by decide +kernel
theorem dX11_pairsBest_237 : decode cX11_pairsBest 237 = .ok (.iinc 4 1, 3) := by decide +kernel
theorem dX11_pairsBest_240 : decode cX11_pairsBest 240 = .ok (.goto (-56), 3) := by decide +kernel
theorem dX11_pairsBest_243 : decode cX11_pairsBest 243 = .ok (.aload_n 0, 1) := by decide +kernel
theorem dX11_pairsBest_244 : decode cX11_pairsBest 244 = .ok (.aload_n 0, 1) := by decide +kernel
theorem dX11_pairsBest_245 : decode cX11_pairsBest 245 = .ok (.getfield 53, 3) := by decide +kernel
theorem dX11_pairsBest_248 : decode cX11_pairsBest 248 = .ok (.iload_n 3, 1) := by decide +kernel
theorem dX11_pairsBest_249 : decode cX11_pairsBest 249 = .ok (.iaload, 1) := by decide +kernel
theorem dX11_pairsBest_250 : decode cX11_pairsBest 250 = .ok (.aload_n 0, 1) := by decide +kernel
theorem dX11_pairsBest_251 : decode cX11_pairsBest 251 = .ok (.getfield 53, 3) := by decide +kernel
theorem dX11_pairsBest_254 : decode cX11_pairsBest 254 = .ok (.iload 4, 2) := by decide +kernel
theorem dX11_pairsBest_256 : decode cX11_pairsBest 256 = .ok (.iaload, 1) := by decide +kernel
theorem dX11_pairsBest_257 : decode cX11_pairsBest 257 = .ok (.iload_n 1, 1) := by decide +kernel
theorem dX11_pairsBest_258 : decode cX11_pairsBest 258 = .ok (.invokevirtual 267, 3) := by decide +kernel
theorem dX11_pairsBest_261 : decode cX11_pairsBest 261 = .ok (.iload_n 2, 1) := by decide +kernel
theorem dX11_pairsBest_262 : decode cX11_pairsBest 262 = .ok (.iconst 1, 1) := by decide +kernel
theorem dX11_pairsBest_263 : decode cX11_pairsBest 263 = .ok (.iload_n 3, 1) := by decide +kernel
theorem dX11_pairsBest_264 : decode cX11_pairsBest 264 = .ok (.ishl, 1) := by decide +kernel
theorem dX11_pairsBest_265 : decode cX11_pairsBest 265 = .ok (.iconst 1, 1) := by decide +kernel
theorem dX11_pairsBest_266 : decode cX11_pairsBest 266 = .ok (.iload 4, 2) := by decide +kernel
theorem dX11_pairsBest_268 : decode cX11_pairsBest 268 = .ok (.ishl, 1) := by decide +kernel
theorem dX11_pairsBest_269 : decode cX11_pairsBest 269 = .ok (.ior, 1) := by decide +kernel
theorem dX11_pairsBest_270 : decode cX11_pairsBest 270 = .ok (.iconst (-1), 1) := by decide +kernel
theorem dX11_pairsBest_271 : decode cX11_pairsBest 271 = .ok (.ixor, 1) := by decide +kernel
theorem dX11_pairsBest_272 : decode cX11_pairsBest 272 = .ok (.iand, 1) := by decide +kernel
theorem dX11_pairsBest_273 : decode cX11_pairsBest 273 = .ok (.istore_n 2, 1) := by decide +kernel
theorem dX11_pairsBest_274 : decode cX11_pairsBest 274 = .ok (.goto (-104), 3) := by decide +kernel
theorem dX11_pairsBest_277 : decode cX11_pairsBest 277 = .ok (.return_, 1) := by decide +kernel
theorem dX11_nextWay_0 : decode cX11_nextWay 0 = .ok (.iconst 0, 1) := by decide +kernel
theorem dX11_nextWay_1 : decode cX11_nextWay 1 = .ok (.istore_n 2, 1) := by decide +kernel
theorem dX11_nextWay_2 : decode cX11_nextWay 2 = .ok (.iload_n 2, 1) := by decide +kernel
theorem dX11_nextWay_3 : decode cX11_nextWay 3 = .ok (.aload_n 0, 1) := by decide +kernel
theorem dX11_nextWay_4 : decode cX11_nextWay 4 = .ok (.getfield 17, 3) := by decide +kernel
theorem dX11_nextWay_7 : decode cX11_nextWay 7 = .ok (.iconst 2, 1) := by decide +kernel
theorem dX11_nextWay_8 : decode cX11_nextWay 8 = .ok (.iaload, 1) := by decide +kernel
theorem dX11_nextWay_9 : decode cX11_nextWay 9 = .ok (.if_icmp .ge 63, 3) := by decide +kernel
theorem dX11_nextWay_12 : decode cX11_nextWay 12 = .ok (.aload_n 0, 1) := by decide +kernel
theorem dX11_nextWay_13 : decode cX11_nextWay 13 = .ok (.getfield 59, 3) := by decide +kernel
theorem dX11_nextWay_16 : decode cX11_nextWay 16 = .ok (.iload_n 2, 1) := by decide +kernel
theorem dX11_nextWay_17 : decode cX11_nextWay 17 = .ok (.baload, 1) := by decide +kernel
theorem dX11_nextWay_18 : decode cX11_nextWay 18 = .ok (.ifCond .ne 19, 3) := by decide +kernel
theorem dX11_nextWay_21 : decode cX11_nextWay 21 = .ok (.aload_n 0, 1) := by decide +kernel
theorem dX11_nextWay_22 : decode cX11_nextWay 22 = .ok (.getfield 29, 3) := by decide +kernel
theorem dX11_nextWay_25 : decode cX11_nextWay 25 = .ok (.iconst 2, 1) := by decide +kernel
theorem dX11_nextWay_26 : decode cX11_nextWay 26 = .ok (.iload_n 2, 1) := by decide +kernel
theorem dX11_nextWay_27 : decode cX11_nextWay 27 = .ok (.imul, 1) := by decide +kernel
theorem dX11_nextWay_28 : decode cX11_nextWay 28 = .ok (.iaload, 1) := by decide +kernel
theorem dX11_nextWay_29 : decode cX11_nextWay 29 = .ok (.iload_n 1, 1) := by decide +kernel
theorem dX11_nextWay_30 : decode cX11_nextWay 30 = .ok (.if_icmp .ne 7, 3) := by decide +kernel
theorem dX11_nextWay_33 : decode cX11_nextWay 33 = .ok (.iconst 2, 1) := by decide +kernel
theorem dX11_nextWay_34 : decode cX11_nextWay 34 = .ok (.iload_n 2, 1) := by decide +kernel
theorem dX11_nextWay_35 : decode cX11_nextWay 35 = .ok (.imul, 1) := by decide +kernel
theorem dX11_nextWay_36 : decode cX11_nextWay 36 = .ok (.ireturn, 1) := by decide +kernel
theorem dX11_nextWay_37 : decode cX11_nextWay 37 = .ok (.aload_n 0, 1) := by decide +kernel
theorem dX11_nextWay_38 : decode cX11_nextWay 38 = .ok (.getfield 59, 3) := by decide +kernel
theorem dX11_nextWay_41 : decode cX11_nextWay 41 = .ok (.iload_n 2, 1) := by decide +kernel
theorem dX11_nextWay_42 : decode cX11_nextWay 42 = .ok (.baload, 1) := by decide +kernel
theorem dX11_nextWay_43 : decode cX11_nextWay 43 = .ok (.ifCond .ne 23, 3) := by decide +kernel
theorem dX11_nextWay_46 : decode cX11_nextWay 46 = .ok (.aload_n 0, 1) := by decide +kernel
theorem dX11_nextWay_47 : decode cX11_nextWay 47 = .ok (.getfield 29, 3) := by decide +kernel
theorem dX11_nextWay_50 : decode cX11_nextWay 50 = .ok (.iconst 2, 1) := by decide +kernel
theorem dX11_nextWay_51 : decode cX11_nextWay 51 = .ok (.iload_n 2, 1) := by decide +kernel
theorem dX11_nextWay_52 : decode cX11_nextWay 52 = .ok (.imul, 1) := by decide +kernel
theorem dX11_nextWay_53 : decode cX11_nextWay 53 = .ok (.iconst 1, 1) := by decide +kernel
theorem dX11_nextWay_54 : decode cX11_nextWay 54 = .ok (.iadd, 1) := by decide +kernel
theorem dX11_nextWay_55 : decode cX11_nextWay 55 = .ok (.iaload, 1) := by decide +kernel
theorem dX11_nextWay_56 : decode cX11_nextWay 56 = .ok (.iload_n 1, 1) := by decide +kernel
theorem dX11_nextWay_57 : decode cX11_nextWay 57 = .ok (.if_icmp .ne 9, 3) := by decide +kernel
theorem dX11_nextWay_60 : decode cX11_nextWay 60 = .ok (.iconst 2, 1) := by decide +kernel
theorem dX11_nextWay_61 : decode cX11_nextWay 61 = .ok (.iload_n 2, 1) := by decide +kernel
theorem dX11_nextWay_62 : decode cX11_nextWay 62 = .ok (.imul, 1) := by decide +kernel
theorem dX11_nextWay_63 : decode cX11_nextWay 63 = .ok (.iconst 1, 1) := by decide +kernel
theorem dX11_nextWay_64 : decode cX11_nextWay 64 = .ok (.iadd, 1) := by decide +kernel
theorem dX11_nextWay_65 : decode cX11_nextWay 65 = .ok (.ireturn, 1) := by decide +kernel
theorem dX11_nextWay_66 : decode cX11_nextWay 66 = .ok (.iinc 2 1, 3) := by decide +kernel
theorem dX11_nextWay_69 : decode cX11_nextWay 69 = .ok (.goto (-67), 3) := by decide +kernel
theorem dX11_nextWay_72 : decode cX11_nextWay 72 = .ok (.iconst 0, 1) := by decide +kernel
theorem dX11_nextWay_73 : decode cX11_nextWay 73 = .ok (.istore_n 2, 1) := by decide +kernel
theorem dX11_nextWay_74 : decode cX11_nextWay 74 = .ok (.iload_n 2, 1) := by decide +kernel
theorem dX11_nextWay_75 : decode cX11_nextWay 75 = .ok (.aload_n 0, 1) := by decide +kernel
theorem dX11_nextWay_76 : decode cX11_nextWay 76 = .ok (.getfield 258, 3) := by decide +kernel
theorem dX11_nextWay_79 : decode cX11_nextWay 79 = .ok (.if_icmp .ge 68, 3) := by decide +kernel
theorem dX11_nextWay_82 : decode cX11_nextWay 82 = .ok (.aload_n 0, 1) := by decide +kernel
theorem dX11_nextWay_83 : decode cX11_nextWay 83 = .ok (.getfield 41, 3) := by decide +kernel
theorem dX11_nextWay_86 : decode cX11_nextWay 86 = .ok (.iload_n 2, 1) := by decide +kernel
theorem dX11_nextWay_87 : decode cX11_nextWay 87 = .ok (.iaload, 1) := by decide +kernel
theorem dX11_nextWay_88 : decode cX11_nextWay 88 = .ok (.iload_n 1, 1) := by decide +kernel
theorem dX11_nextWay_89 : decode cX11_nextWay 89 = .ok (.if_icmp .eq 13, 3) := by decide +kernel
theorem dX11_nextWay_92 : decode cX11_nextWay 92 = .ok (.aload_n 0, 1) := by decide +kernel
theorem dX11_nextWay_93 : decode cX11_nextWay 93 = .ok (.getfield 44, 3) := by decide +kernel
theorem dX11_nextWay_96 : decode cX11_nextWay 96 = .ok (.iload_n 2, 1) := by decide +kernel
theorem dX11_nextWay_97 : decode cX11_nextWay 97 = .ok (.iaload, 1) := by decide +kernel
theorem dX11_nextWay_98 : decode cX11_nextWay 98 = .ok (.iload_n 1, 1) := by decide +kernel
theorem dX11_nextWay_99 : decode cX11_nextWay 99 = .ok (.if_icmp .ne 7, 3) := by decide +kernel
theorem dX11_nextWay_102 : decode cX11_nextWay 102 = .ok (.iconst 1, 1) := by decide +kernel
theorem dX11_nextWay_103 : decode cX11_nextWay 103 = .ok (.goto 4, 3) := by decide +kernel
theorem dX11_nextWay_106 : decode cX11_nextWay 106 = .ok (.iconst 0, 1) := by decide +kernel
theorem dX11_nextWay_107 : decode cX11_nextWay 107 = .ok (.istore_n 3, 1) := by decide +kernel
theorem dX11_nextWay_108 : decode cX11_nextWay 108 = .ok (.iload_n 3, 1) := by decide +kernel
theorem dX11_nextWay_109 : decode cX11_nextWay 109 = .ok (.ifCond .eq 32, 3) := by decide +kernel
theorem dX11_nextWay_112 : decode cX11_nextWay 112 = .ok (.aload_n 0, 1) := by decide +kernel
theorem dX11_nextWay_113 : decode cX11_nextWay 113 = .ok (.getfield 63, 3) := by decide +kernel
theorem dX11_nextWay_116 : decode cX11_nextWay 116 = .ok (.iload_n 2, 1) := by decide +kernel
theorem dX11_nextWay_117 : decode cX11_nextWay 117 = .ok (.baload, 1) := by decide +kernel
theorem dX11_nextWay_118 : decode cX11_nextWay 118 = .ok (.ifCond .ne 23, 3) := by decide +kernel
theorem dX11_nextWay_121 : decode cX11_nextWay 121 = .ok (.aload_n 0, 1) := by decide +kernel
theorem dX11_nextWay_122 : decode cX11_nextWay 122 = .ok (.getfield 50, 3) := by decide +kernel
theorem dX11_nextWay_125 : decode cX11_nextWay 125 = .ok (.aload_n 0, 1) := by decide +kernel
theorem dX11_nextWay_126 : decode cX11_nextWay 126 = .ok (.getfield 47, 3) := by decide +kernel
theorem dX11_nextWay_129 : decode cX11_nextWay 129 = .ok (.iload_n 2, 1) := by decide +kernel
theorem dX11_nextWay_130 : decode cX11_nextWay 130 = .ok (.iaload, 1) := by decide +kernel
theorem dX11_nextWay_131 : decode cX11_nextWay 131 = .ok (.iaload, 1) := by decide +kernel
theorem dX11_nextWay_132 : decode cX11_nextWay 132 = .ok (.iload_n 2, 1) := by decide +kernel
theorem dX11_nextWay_133 : decode cX11_nextWay 133 = .ok (.if_icmp .eq 8, 3) := by decide +kernel
theorem dX11_nextWay_136 : decode cX11_nextWay 136 = .ok (.bipush (-3), 2) := by decide +kernel
theorem dX11_nextWay_138 : decode cX11_nextWay 138 = .ok (.iload_n 2, 1) := by decide +kernel
theorem dX11_nextWay_139 : decode cX11_nextWay 139 = .ok (.isub, 1) := by decide +kernel
theorem dX11_nextWay_140 : decode cX11_nextWay 140 = .ok (.ireturn, 1) := by decide +kernel
theorem dX11_nextWay_141 : decode cX11_nextWay 141 = .ok (.iinc 2 1, 3) := by decide +kernel
theorem dX11_nextWay_144 : decode cX11_nextWay 144 = .ok (.goto (-70), 3) := by decide +kernel
theorem dX11_nextWay_147 : decode cX11_nextWay 147 = .ok (.bipush (-2), 2) := by decide +kernel
theorem dX11_nextWay_149 : decode cX11_nextWay 149 = .ok (.ireturn, 1) := by decide +kernel
theorem dX11_across_0 : decode cX11_across 0 = .ok (.iload_n 1, 1) := by decide +kernel
theorem dX11_across_1 : decode cX11_across 1 = .ok (.ifCond .lt 24, 3) := by decide +kernel
theorem dX11_across_4 : decode cX11_across 4 = .ok (.aload_n 0, 1) := by decide +kernel
theorem dX11_across_5 : decode cX11_across 5 = .ok (.getfield 29, 3) := by decide +kernel
theorem dX11_across_8 : decode cX11_across 8 = .ok (.iload_n 1, 1) := by decide +kernel
theorem dX11_across_9 : decode cX11_across 9 = .ok (.iconst 2, 1) := by decide +kernel
theorem dX11_across_10 : decode cX11_across 10 = .ok (.irem, 1) := by decide +kernel
theorem dX11_across_11 : decode cX11_across 11 = .ok (.ifCond .ne 9, 3) := by decide +kernel
theorem dX11_across_14 : decode cX11_across 14 = .ok (.iload_n 1, 1) := by decide +kernel
theorem dX11_across_15 : decode cX11_across 15 = .ok (.iconst 1, 1) := by decide +kernel
theorem dX11_across_16 : decode cX11_across 16 = .ok (.iadd, 1) := by decide +kernel
theorem dX11_across_17 : decode cX11_across 17 = .ok (.goto 6, 3) := by decide +kernel
theorem dX11_across_20 : decode cX11_across 20 = .ok (.iload_n 1, 1) := by decide +kernel
theorem dX11_across_21 : decode cX11_across 21 = .ok (.iconst 1, 1) := by decide +kernel
theorem dX11_across_22 : decode cX11_across 22 = .ok (.isub, 1) := by decide +kernel
theorem dX11_across_23 : decode cX11_across 23 = .ok (.iaload, 1) := by decide +kernel
theorem dX11_across_24 : decode cX11_across 24 = .ok (.ireturn, 1) := by decide +kernel
theorem dX11_across_25 : decode cX11_across 25 = .ok (.bipush (-3), 2) := by decide +kernel
theorem dX11_across_27 : decode cX11_across 27 = .ok (.iload_n 1, 1) := by decide +kernel
theorem dX11_across_28 : decode cX11_across 28 = .ok (.isub, 1) := by decide +kernel
theorem dX11_across_29 : decode cX11_across 29 = .ok (.istore_n 3, 1) := by decide +kernel
theorem dX11_across_30 : decode cX11_across 30 = .ok (.aload_n 0, 1) := by decide +kernel
theorem dX11_across_31 : decode cX11_across 31 = .ok (.getfield 41, 3) := by decide +kernel
theorem dX11_across_34 : decode cX11_across 34 = .ok (.iload_n 3, 1) := by decide +kernel
theorem dX11_across_35 : decode cX11_across 35 = .ok (.iaload, 1) := by decide +kernel
theorem dX11_across_36 : decode cX11_across 36 = .ok (.iload_n 2, 1) := by decide +kernel
theorem dX11_across_37 : decode cX11_across 37 = .ok (.if_icmp .ne 12, 3) := by decide +kernel
theorem dX11_across_40 : decode cX11_across 40 = .ok (.aload_n 0, 1) := by decide +kernel
theorem dX11_across_41 : decode cX11_across 41 = .ok (.getfield 44, 3) := by decide +kernel
theorem dX11_across_44 : decode cX11_across 44 = .ok (.iload_n 3, 1) := by decide +kernel
theorem dX11_across_45 : decode cX11_across 45 = .ok (.iaload, 1) := by decide +kernel
theorem dX11_across_46 : decode cX11_across 46 = .ok (.goto 9, 3) := by decide +kernel
theorem dX11_across_49 : decode cX11_across 49 = .ok (.aload_n 0, 1) := by decide +kernel
theorem dX11_across_50 : decode cX11_across 50 = .ok (.getfield 41, 3) := by decide +kernel
theorem dX11_across_53 : decode cX11_across 53 = .ok (.iload_n 3, 1) := by decide +kernel
theorem dX11_across_54 : decode cX11_across 54 = .ok (.iaload, 1) := by decide +kernel
theorem dX11_across_55 : decode cX11_across 55 = .ok (.ireturn, 1) := by decide +kernel
theorem dX11_goesFrom_0 : decode cX11_goesFrom 0 = .ok (.aload_n 0, 1) := by decide +kernel
theorem dX11_goesFrom_1 : decode cX11_goesFrom 1 = .ok (.getfield 69, 3) := by decide +kernel
theorem dX11_goesFrom_4 : decode cX11_goesFrom 4 = .ok (.iload_n 1, 1) := by decide +kernel
theorem dX11_goesFrom_5 : decode cX11_goesFrom 5 = .ok (.iaload, 1) := by decide +kernel
theorem dX11_goesFrom_6 : decode cX11_goesFrom 6 = .ok (.istore_n 2, 1) := by decide +kernel
theorem dX11_goesFrom_7 : decode cX11_goesFrom 7 = .ok (.iconst 0, 1) := by decide +kernel
theorem dX11_goesFrom_8 : decode cX11_goesFrom 8 = .ok (.istore_n 3, 1) := by decide +kernel
theorem dX11_goesFrom_9 : decode cX11_goesFrom 9 = .ok (.aload_n 0, 1) := by decide +kernel
theorem dX11_goesFrom_10 : decode cX11_goesFrom 10 = .ok (.iload_n 2, 1) := by decide +kernel
theorem dX11_goesFrom_11 : decode cX11_goesFrom 11 = .ok (.invokevirtual 284, 3) := by decide +kernel
theorem dX11_goesFrom_14 : decode cX11_goesFrom 14 = .ok (.istore 4, 2) := by decide +kernel
theorem dX11_goesFrom_16 : decode cX11_goesFrom 16 = .ok (.iload 4, 2) := by decide +kernel
theorem dX11_goesFrom_18 : decode cX11_goesFrom 18 = .ok (.bipush (-2), 2) := by decide +kernel
theorem dX11_goesFrom_20 : decode cX11_goesFrom 20 = .ok (.if_icmp .eq 68, 3) := by decide +kernel
theorem dX11_goesFrom_23 : decode cX11_goesFrom 23 = .ok (.aload_n 0, 1) := by decide +kernel
theorem dX11_goesFrom_24 : decode cX11_goesFrom 24 = .ok (.getfield 72, 3) := by decide +kernel
theorem dX11_goesFrom_27 : decode cX11_goesFrom 27 = .ok (.iload_n 3, 1) := by decide +kernel
theorem dX11_goesFrom_28 : decode cX11_goesFrom 28 = .ok (.iload 4, 2) := by decide +kernel
theorem dX11_goesFrom_30 : decode cX11_goesFrom 30 = .ok (.iastore, 1) := by decide +kernel
theorem dX11_goesFrom_31 : decode cX11_goesFrom 31 = .ok (.aload_n 0, 1) := by decide +kernel
theorem dX11_goesFrom_32 : decode cX11_goesFrom 32 = .ok (.getfield 75, 3) := by decide +kernel
theorem dX11_goesFrom_35 : decode cX11_goesFrom 35 = .ok (.iload_n 3, 1) := by decide +kernel
theorem dX11_goesFrom_36 : decode cX11_goesFrom 36 = .ok (.iload_n 2, 1) := by decide +kernel
theorem dX11_goesFrom_37 : decode cX11_goesFrom 37 = .ok (.iastore, 1) := by decide +kernel
theorem dX11_goesFrom_38 : decode cX11_goesFrom 38 = .ok (.iinc 3 1, 3) := by decide +kernel
theorem dX11_goesFrom_41 : decode cX11_goesFrom 41 = .ok (.iload 4, 2) := by decide +kernel
theorem dX11_goesFrom_43 : decode cX11_goesFrom 43 = .ok (.ifCond .lt 16, 3) := by decide +kernel
theorem dX11_goesFrom_46 : decode cX11_goesFrom 46 = .ok (.aload_n 0, 1) := by decide +kernel
theorem dX11_goesFrom_47 : decode cX11_goesFrom 47 = .ok (.getfield 59, 3) := by decide +kernel
theorem dX11_goesFrom_50 : decode cX11_goesFrom 50 = .ok (.iload 4, 2) := by decide +kernel
theorem dX11_goesFrom_52 : decode cX11_goesFrom 52 = .ok (.iconst 2, 1) := by decide +kernel
theorem dX11_goesFrom_53 : decode cX11_goesFrom 53 = .ok (.idiv, 1) := by decide +kernel
theorem dX11_goesFrom_54 : decode cX11_goesFrom 54 = .ok (.iconst 1, 1) := by decide +kernel
theorem dX11_goesFrom_55 : decode cX11_goesFrom 55 = .ok (.bastore, 1) := by decide +kernel
theorem dX11_goesFrom_56 : decode cX11_goesFrom 56 = .ok (.goto 14, 3) := by decide +kernel
theorem dX11_goesFrom_59 : decode cX11_goesFrom 59 = .ok (.aload_n 0, 1) := by decide +kernel
theorem dX11_goesFrom_60 : decode cX11_goesFrom 60 = .ok (.getfield 63, 3) := by decide +kernel
theorem dX11_goesFrom_63 : decode cX11_goesFrom 63 = .ok (.bipush (-3), 2) := by decide +kernel
theorem dX11_goesFrom_65 : decode cX11_goesFrom 65 = .ok (.iload 4, 2) := by decide +kernel
theorem dX11_goesFrom_67 : decode cX11_goesFrom 67 = .ok (.isub, 1) := by decide +kernel
theorem dX11_goesFrom_68 : decode cX11_goesFrom 68 = .ok (.iconst 1, 1) := by decide +kernel
theorem dX11_goesFrom_69 : decode cX11_goesFrom 69 = .ok (.bastore, 1) := by decide +kernel
theorem dX11_goesFrom_70 : decode cX11_goesFrom 70 = .ok (.aload_n 0, 1) := by decide +kernel
theorem dX11_goesFrom_71 : decode cX11_goesFrom 71 = .ok (.iload 4, 2) := by decide +kernel
theorem dX11_goesFrom_73 : decode cX11_goesFrom 73 = .ok (.iload_n 2, 1) := by decide +kernel
theorem dX11_goesFrom_74 : decode cX11_goesFrom 74 = .ok (.invokevirtual 287, 3) := by decide +kernel
theorem dX11_goesFrom_77 : decode cX11_goesFrom 77 = .ok (.istore_n 2, 1) := by decide +kernel
theorem dX11_goesFrom_78 : decode cX11_goesFrom 78 = .ok (.aload_n 0, 1) := by decide +kernel
theorem dX11_goesFrom_79 : decode cX11_goesFrom 79 = .ok (.iload_n 2, 1) := by decide +kernel
theorem dX11_goesFrom_80 : decode cX11_goesFrom 80 = .ok (.invokevirtual 284, 3) := by decide +kernel
theorem dX11_goesFrom_83 : decode cX11_goesFrom 83 = .ok (.istore 4, 2) := by decide +kernel
theorem dX11_goesFrom_85 : decode cX11_goesFrom 85 = .ok (.goto (-69), 3) := by decide +kernel
theorem dX11_goesFrom_88 : decode cX11_goesFrom 88 = .ok (.aload_n 0, 1) := by decide +kernel
theorem dX11_goesFrom_89 : decode cX11_goesFrom 89 = .ok (.getfield 290, 3) := by decide +kernel
theorem dX11_goesFrom_92 : decode cX11_goesFrom 92 = .ok (.istore 5, 2) := by decide +kernel
theorem dX11_goesFrom_94 : decode cX11_goesFrom 94 = .ok (.iload 5, 2) := by decide +kernel
theorem dX11_goesFrom_96 : decode cX11_goesFrom 96 = .ok (.iload_n 1, 1) := by decide +kernel
theorem dX11_goesFrom_97 : decode cX11_goesFrom 97 = .ok (.if_icmp .lt 25, 3) := by decide +kernel
theorem dX11_goesFrom_100 : decode cX11_goesFrom 100 = .ok (.aload_n 0, 1) := by decide +kernel
theorem dX11_goesFrom_101 : decode cX11_goesFrom 101 = .ok (.getfield 69, 3) := by decide +kernel
theorem dX11_goesFrom_104 : decode cX11_goesFrom 104 = .ok (.iload 5, 2) := by decide +kernel
theorem dX11_goesFrom_106 : decode cX11_goesFrom 106 = .ok (.iload_n 3, 1) := by decide +kernel
theorem dX11_goesFrom_107 : decode cX11_goesFrom 107 = .ok (.iadd, 1) := by decide +kernel
theorem dX11_goesFrom_108 : decode cX11_goesFrom 108 = .ok (.aload_n 0, 1) := by decide +kernel
theorem dX11_goesFrom_109 : decode cX11_goesFrom 109 = .ok (.getfield 69, 3) := by decide +kernel
theorem dX11_goesFrom_112 : decode cX11_goesFrom 112 = .ok (.iload 5, 2) := by decide +kernel
theorem dX11_goesFrom_114 : decode cX11_goesFrom 114 = .ok (.iaload, 1) := by decide +kernel
theorem dX11_goesFrom_115 : decode cX11_goesFrom 115 = .ok (.iastore, 1) := by decide +kernel
theorem dX11_goesFrom_116 : decode cX11_goesFrom 116 = .ok (.iinc 5 (-1), 3) := by decide +kernel
theorem dX11_goesFrom_119 : decode cX11_goesFrom 119 = .ok (.goto (-25), 3) := by decide +kernel
theorem dX11_goesFrom_122 : decode cX11_goesFrom 122 = .ok (.aload_n 0, 1) := by decide +kernel
theorem dX11_goesFrom_123 : decode cX11_goesFrom 123 = .ok (.getfield 290, 3) := by decide +kernel
theorem dX11_goesFrom_126 : decode cX11_goesFrom 126 = .ok (.iconst 1, 1) := by decide +kernel
theorem dX11_goesFrom_127 : decode cX11_goesFrom 127 = .ok (.isub, 1) := by decide +kernel
theorem dX11_goesFrom_128 : decode cX11_goesFrom 128 = .ok (.istore 5, 2) := by decide +kernel
theorem dX11_goesFrom_130 : decode cX11_goesFrom 130 = .ok (.iload 5, 2) := by decide +kernel
theorem dX11_goesFrom_132 : decode cX11_goesFrom 132 = .ok (.iload_n 1, 1) := by decide +kernel
theorem dX11_goesFrom_133 : decode cX11_goesFrom 133 = .ok (.if_icmp .lt 25, 3) := by decide +kernel
theorem dX11_goesFrom_136 : decode cX11_goesFrom 136 = .ok (.aload_n 0, 1) := by decide +kernel
theorem dX11_goesFrom_137 : decode cX11_goesFrom 137 = .ok (.getfield 66, 3) := by decide +kernel
theorem dX11_goesFrom_140 : decode cX11_goesFrom 140 = .ok (.iload 5, 2) := by decide +kernel
theorem dX11_goesFrom_142 : decode cX11_goesFrom 142 = .ok (.iload_n 3, 1) := by decide +kernel
theorem dX11_goesFrom_143 : decode cX11_goesFrom 143 = .ok (.iadd, 1) := by decide +kernel
theorem dX11_goesFrom_144 : decode cX11_goesFrom 144 = .ok (.aload_n 0, 1) := by decide +kernel
theorem dX11_goesFrom_145 : decode cX11_goesFrom 145 = .ok (.getfield 66, 3) := by decide +kernel
theorem dX11_goesFrom_148 : decode cX11_goesFrom 148 = .ok (.iload 5, 2) := by decide +kernel
theorem dX11_goesFrom_150 : decode cX11_goesFrom 150 = .ok (.iaload, 1) := by decide +kernel
theorem dX11_goesFrom_151 : decode cX11_goesFrom 151 = .ok (.iastore, 1) := by decide +kernel
theorem dX11_goesFrom_152 : decode cX11_goesFrom 152 = .ok (.iinc 5 (-1), 3) := by decide +kernel
theorem dX11_goesFrom_155 : decode cX11_goesFrom 155 = .ok (.goto (-25), 3) := by decide +kernel
theorem dX11_goesFrom_158 : decode cX11_goesFrom 158 = .ok (.iconst 0, 1) := by decide +kernel
theorem dX11_goesFrom_159 : decode cX11_goesFrom 159 = .ok (.istore 5, 2) := by decide +kernel
theorem dX11_goesFrom_161 : decode cX11_goesFrom 161 = .ok (.iload 5, 2) := by decide +kernel
theorem dX11_goesFrom_163 : decode cX11_goesFrom 163 = .ok (.iload_n 3, 1) := by decide +kernel
theorem dX11_goesFrom_164 : decode cX11_goesFrom 164 = .ok (.if_icmp .ge 41, 3) := by decide +kernel
theorem dX11_goesFrom_167 : decode cX11_goesFrom 167 = .ok (.aload_n 0, 1) := by decide +kernel
theorem dX11_goesFrom_168 : decode cX11_goesFrom 168 = .ok (.getfield 66, 3) := by decide +kernel
theorem dX11_goesFrom_171 : decode cX11_goesFrom 171 = .ok (.iload_n 1, 1) := by decide +kernel
theorem dX11_goesFrom_172 : decode cX11_goesFrom 172 = .ok (.iload 5, 2) := by decide +kernel
theorem dX11_goesFrom_174 : decode cX11_goesFrom 174 = .ok (.iadd, 1) := by decide +kernel
theorem dX11_goesFrom_175 : decode cX11_goesFrom 175 = .ok (.aload_n 0, 1) := by decide +kernel
theorem dX11_goesFrom_176 : decode cX11_goesFrom 176 = .ok (.getfield 72, 3) := by decide +kernel
theorem dX11_goesFrom_179 : decode cX11_goesFrom 179 = .ok (.iload 5, 2) := by decide +kernel
theorem dX11_goesFrom_181 : decode cX11_goesFrom 181 = .ok (.iaload, 1) := by decide +kernel
theorem dX11_goesFrom_182 : decode cX11_goesFrom 182 = .ok (.iastore, 1) := by decide +kernel
theorem dX11_goesFrom_183 : decode cX11_goesFrom 183 = .ok (.aload_n 0, 1) := by decide +kernel
theorem dX11_goesFrom_184 : decode cX11_goesFrom 184 = .ok (.getfield 69, 3) := by decide +kernel
theorem dX11_goesFrom_187 : decode cX11_goesFrom 187 = .ok (.iload_n 1, 1) := by decide +kernel
theorem dX11_goesFrom_188 : decode cX11_goesFrom 188 = .ok (.iload 5, 2) := by decide +kernel
theorem dX11_goesFrom_190 : decode cX11_goesFrom 190 = .ok (.iadd, 1) := by decide +kernel
theorem dX11_goesFrom_191 : decode cX11_goesFrom 191 = .ok (.aload_n 0, 1) := by decide +kernel
theorem dX11_goesFrom_192 : decode cX11_goesFrom 192 = .ok (.getfield 75, 3) := by decide +kernel
theorem dX11_goesFrom_195 : decode cX11_goesFrom 195 = .ok (.iload 5, 2) := by decide +kernel
theorem dX11_goesFrom_197 : decode cX11_goesFrom 197 = .ok (.iaload, 1) := by decide +kernel
theorem dX11_goesFrom_198 : decode cX11_goesFrom 198 = .ok (.iastore, 1) := by decide +kernel
theorem dX11_goesFrom_199 : decode cX11_goesFrom 199 = .ok (.iinc 5 1, 3) := by decide +kernel
theorem dX11_goesFrom_202 : decode cX11_goesFrom 202 = .ok (.goto (-41), 3) := by decide +kernel
theorem dX11_goesFrom_205 : decode cX11_goesFrom 205 = .ok (.aload_n 0, 1) := by decide +kernel
theorem dX11_goesFrom_206 : decode cX11_goesFrom 206 = .ok (.dup, 1) := by decide +kernel
theorem dX11_goesFrom_207 : decode cX11_goesFrom 207 = .ok (.getfield 290, 3) := by decide +kernel
theorem dX11_goesFrom_210 : decode cX11_goesFrom 210 = .ok (.iload_n 3, 1) := by decide +kernel
theorem dX11_goesFrom_211 : decode cX11_goesFrom 211 = .ok (.iadd, 1) := by decide +kernel
theorem dX11_goesFrom_212 : decode cX11_goesFrom 212 = .ok (.putfield 290, 3) := by decide +kernel
theorem dX11_goesFrom_215 : decode cX11_goesFrom 215 = .ok (.aload_n 0, 1) := by decide +kernel
theorem dX11_goesFrom_216 : decode cX11_goesFrom 216 = .ok (.getfield 69, 3) := by decide +kernel
theorem dX11_goesFrom_219 : decode cX11_goesFrom 219 = .ok (.iload_n 1, 1) := by decide +kernel
theorem dX11_goesFrom_220 : decode cX11_goesFrom 220 = .ok (.iload_n 3, 1) := by decide +kernel
theorem dX11_goesFrom_221 : decode cX11_goesFrom 221 = .ok (.iadd, 1) := by decide +kernel
theorem dX11_goesFrom_222 : decode cX11_goesFrom 222 = .ok (.iload_n 2, 1) := by decide +kernel
theorem dX11_goesFrom_223 : decode cX11_goesFrom 223 = .ok (.iastore, 1) := by decide +kernel
theorem dX11_goesFrom_224 : decode cX11_goesFrom 224 = .ok (.return_, 1) := by decide +kernel
theorem dX11_walksPart_0 : decode cX11_walksPart 0 = .ok (.aload_n 0, 1) := by decide +kernel
theorem dX11_walksPart_1 : decode cX11_walksPart 1 = .ok (.getfield 50, 3) := by decide +kernel
theorem dX11_walksPart_4 : decode cX11_walksPart 4 = .ok (.iload_n 1, 1) := by decide +kernel
theorem dX11_walksPart_5 : decode cX11_walksPart 5 = .ok (.iaload, 1) := by decide +kernel
theorem dX11_walksPart_6 : decode cX11_walksPart 6 = .ok (.iconst (-1), 1) := by decide +kernel
theorem dX11_walksPart_7 : decode cX11_walksPart 7 = .ok (.if_icmp .ne 7, 3) := by decide +kernel
theorem dX11_walksPart_10 : decode cX11_walksPart 10 = .ok (.iconst (-1), 1) := by decide +kernel
theorem dX11_walksPart_11 : decode cX11_walksPart 11 = .ok (.goto 14, 3) := by decide +kernel
theorem dX11_walksPart_14 : decode cX11_walksPart 14 = .ok (.aload_n 0, 1) := by decide +kernel
theorem dX11_walksPart_15 : decode cX11_walksPart 15 = .ok (.getfield 41, 3) := by decide +kernel
theorem dX11_walksPart_18 : decode cX11_walksPart 18 = .ok (.aload_n 0, 1) := by decide +kernel
theorem dX11_walksPart_19 : decode cX11_walksPart 19 = .ok (.getfield 50, 3) := by decide +kernel
theorem dX11_walksPart_22 : decode cX11_walksPart 22 = .ok (.iload_n 1, 1) := by decide +kernel
theorem dX11_walksPart_23 : decode cX11_walksPart 23 = .ok (.iaload, 1) := by decide +kernel
theorem dX11_walksPart_24 : decode cX11_walksPart 24 = .ok (.iaload, 1) := by decide +kernel
theorem dX11_walksPart_25 : decode cX11_walksPart 25 = .ok (.istore_n 2, 1) := by decide +kernel
theorem dX11_walksPart_26 : decode cX11_walksPart 26 = .ok (.iconst 0, 1) := by decide +kernel
theorem dX11_walksPart_27 : decode cX11_walksPart 27 = .ok (.istore_n 3, 1) := by decide +kernel
theorem dX11_walksPart_28 : decode cX11_walksPart 28 = .ok (.iload_n 3, 1) := by decide +kernel
theorem dX11_walksPart_29 : decode cX11_walksPart 29 = .ok (.aload_n 0, 1) := by decide +kernel
theorem dX11_walksPart_30 : decode cX11_walksPart 30 = .ok (.getfield 249, 3) := by decide +kernel
theorem dX11_walksPart_33 : decode cX11_walksPart 33 = .ok (.if_icmp .ge 30, 3) := by decide +kernel
theorem dX11_walksPart_36 : decode cX11_walksPart 36 = .ok (.iload_n 2, 1) := by decide +kernel
theorem dX11_walksPart_37 : decode cX11_walksPart 37 = .ok (.iconst (-1), 1) := by decide +kernel
theorem dX11_walksPart_38 : decode cX11_walksPart 38 = .ok (.if_icmp .ne 25, 3) := by decide +kernel
theorem dX11_walksPart_41 : decode cX11_walksPart 41 = .ok (.aload_n 0, 1) := by decide +kernel
theorem dX11_walksPart_42 : decode cX11_walksPart 42 = .ok (.getfield 38, 3) := by decide +kernel
theorem dX11_walksPart_45 : decode cX11_walksPart 45 = .ok (.iload_n 3, 1) := by decide +kernel
theorem dX11_walksPart_46 : decode cX11_walksPart 46 = .ok (.iaload, 1) := by decide +kernel
theorem dX11_walksPart_47 : decode cX11_walksPart 47 = .ok (.iload_n 1, 1) := by decide +kernel
theorem dX11_walksPart_48 : decode cX11_walksPart 48 = .ok (.if_icmp .ne 7, 3) := by decide +kernel
theorem dX11_walksPart_51 : decode cX11_walksPart 51 = .ok (.iload_n 3, 1) := by decide +kernel
theorem dX11_walksPart_52 : decode cX11_walksPart 52 = .ok (.goto 4, 3) := by decide +kernel
theorem dX11_walksPart_55 : decode cX11_walksPart 55 = .ok (.iload_n 2, 1) := by decide +kernel
theorem dX11_walksPart_56 : decode cX11_walksPart 56 = .ok (.istore_n 2, 1) := by decide +kernel
theorem dX11_walksPart_57 : decode cX11_walksPart 57 = .ok (.iinc 3 1, 3) := by decide +kernel
theorem dX11_walksPart_60 : decode cX11_walksPart 60 = .ok (.goto (-32), 3) := by decide +kernel
theorem dX11_walksPart_63 : decode cX11_walksPart 63 = .ok (.aload_n 0, 1) := by decide +kernel
theorem dX11_walksPart_64 : decode cX11_walksPart 64 = .ok (.iconst 0, 1) := by decide +kernel
theorem dX11_walksPart_65 : decode cX11_walksPart 65 = .ok (.putfield 290, 3) := by decide +kernel
theorem dX11_walksPart_68 : decode cX11_walksPart 68 = .ok (.aload_n 0, 1) := by decide +kernel
theorem dX11_walksPart_69 : decode cX11_walksPart 69 = .ok (.getfield 69, 3) := by decide +kernel
theorem dX11_walksPart_72 : decode cX11_walksPart 72 = .ok (.iconst 0, 1) := by decide +kernel
theorem dX11_walksPart_73 : decode cX11_walksPart 73 = .ok (.iload_n 2, 1) := by decide +kernel
theorem dX11_walksPart_74 : decode cX11_walksPart 74 = .ok (.iastore, 1) := by decide +kernel
theorem dX11_walksPart_75 : decode cX11_walksPart 75 = .ok (.iconst 0, 1) := by decide +kernel
theorem dX11_walksPart_76 : decode cX11_walksPart 76 = .ok (.istore_n 3, 1) := by decide +kernel
theorem dX11_walksPart_77 : decode cX11_walksPart 77 = .ok (.iload_n 3, 1) := by decide +kernel
theorem dX11_walksPart_78 : decode cX11_walksPart 78 = .ok (.aload_n 0, 1) := by decide +kernel
theorem dX11_walksPart_79 : decode cX11_walksPart 79 = .ok (.getfield 290, 3) := by decide +kernel
theorem dX11_walksPart_82 : decode cX11_walksPart 82 = .ok (.if_icmp .gt 32, 3) := by decide +kernel
theorem dX11_walksPart_85 : decode cX11_walksPart 85 = .ok (.aload_n 0, 1) := by decide +kernel
theorem dX11_walksPart_86 : decode cX11_walksPart 86 = .ok (.aload_n 0, 1) := by decide +kernel
theorem dX11_walksPart_87 : decode cX11_walksPart 87 = .ok (.getfield 69, 3) := by decide +kernel
theorem dX11_walksPart_90 : decode cX11_walksPart 90 = .ok (.iload_n 3, 1) := by decide +kernel
theorem dX11_walksPart_91 : decode cX11_walksPart 91 = .ok (.iaload, 1) := by decide +kernel
theorem dX11_walksPart_92 : decode cX11_walksPart 92 = .ok (.invokevirtual 284, 3) := by decide +kernel
theorem dX11_walksPart_95 : decode cX11_walksPart 95 = .ok (.bipush (-2), 2) := by decide +kernel
theorem dX11_walksPart_97 : decode cX11_walksPart 97 = .ok (.if_icmp .eq 11, 3) := by decide +kernel
theorem dX11_walksPart_100 : decode cX11_walksPart 100 = .ok (.aload_n 0, 1) := by decide +kernel
theorem dX11_walksPart_101 : decode cX11_walksPart 101 = .ok (.iload_n 3, 1) := by decide +kernel
theorem dX11_walksPart_102 : decode cX11_walksPart 102 = .ok (.invokevirtual 293, 3) := by decide +kernel
theorem dX11_walksPart_105 : decode cX11_walksPart 105 = .ok (.goto (-28), 3) := by decide +kernel
theorem dX11_walksPart_108 : decode cX11_walksPart 108 = .ok (.iinc 3 1, 3) := by decide +kernel
theorem dX11_walksPart_111 : decode cX11_walksPart 111 = .ok (.goto (-34), 3) := by decide +kernel
theorem dX11_walksPart_114 : decode cX11_walksPart 114 = .ok (.return_, 1) := by decide +kernel
theorem dX11_laysTrails_0 : decode cX11_laysTrails 0 = .ok (.aload_n 0, 1) := by decide +kernel
theorem dX11_laysTrails_1 : decode cX11_laysTrails 1 = .ok (.getfield 78, 3) := by decide +kernel
theorem dX11_laysTrails_4 : decode cX11_laysTrails 4 = .ok (.iload_n 1, 1) := by decide +kernel
theorem dX11_laysTrails_5 : decode cX11_laysTrails 5 = .ok (.iaload, 1) := by decide +kernel
theorem dX11_laysTrails_6 : decode cX11_laysTrails 6 = .ok (.istore_n 2, 1) := by decide +kernel
theorem dX11_laysTrails_7 : decode cX11_laysTrails 7 = .ok (.iconst 0, 1) := by decide +kernel
theorem dX11_laysTrails_8 : decode cX11_laysTrails 8 = .ok (.istore_n 3, 1) := by decide +kernel
theorem dX11_laysTrails_9 : decode cX11_laysTrails 9 = .ok (.iconst 0, 1) := by decide +kernel
theorem dX11_laysTrails_10 : decode cX11_laysTrails 10 = .ok (.istore 4, 2) := by decide +kernel
theorem dX11_laysTrails_12 : decode cX11_laysTrails 12 = .ok (.iload 4, 2) := by decide +kernel
theorem dX11_laysTrails_14 : decode cX11_laysTrails 14 = .ok (.aload_n 0, 1) := by decide +kernel
theorem dX11_laysTrails_15 : decode cX11_laysTrails 15 = .ok (.getfield 290, 3) := by decide +kernel
theorem dX11_laysTrails_18 : decode cX11_laysTrails 18 = .ok (.if_icmp .ge 140, 3) := by decide +kernel
theorem dX11_laysTrails_21 : decode cX11_laysTrails 21 = .ok (.aload_n 0, 1) := by decide +kernel
theorem dX11_laysTrails_22 : decode cX11_laysTrails 22 = .ok (.getfield 81, 3) := by decide +kernel
theorem dX11_laysTrails_25 : decode cX11_laysTrails 25 = .ok (.iload_n 2, 1) := by decide +kernel
theorem dX11_laysTrails_26 : decode cX11_laysTrails 26 = .ok (.iload 4, 2) := by decide +kernel
theorem dX11_laysTrails_28 : decode cX11_laysTrails 28 = .ok (.iadd, 1) := by decide +kernel
theorem dX11_laysTrails_29 : decode cX11_laysTrails 29 = .ok (.aload_n 0, 1) := by decide +kernel
theorem dX11_laysTrails_30 : decode cX11_laysTrails 30 = .ok (.getfield 66, 3) := by decide +kernel
theorem dX11_laysTrails_33 : decode cX11_laysTrails 33 = .ok (.iload 4, 2) := by decide +kernel
theorem dX11_laysTrails_35 : decode cX11_laysTrails 35 = .ok (.iaload, 1) := by decide +kernel
theorem dX11_laysTrails_36 : decode cX11_laysTrails 36 = .ok (.iastore, 1) := by decide +kernel
theorem dX11_laysTrails_37 : decode cX11_laysTrails 37 = .ok (.aload_n 0, 1) := by decide +kernel
theorem dX11_laysTrails_38 : decode cX11_laysTrails 38 = .ok (.getfield 66, 3) := by decide +kernel
theorem dX11_laysTrails_41 : decode cX11_laysTrails 41 = .ok (.iload 4, 2) := by decide +kernel
theorem dX11_laysTrails_43 : decode cX11_laysTrails 43 = .ok (.iaload, 1) := by decide +kernel
theorem dX11_laysTrails_44 : decode cX11_laysTrails 44 = .ok (.ifCond .ge 8, 3) := by decide +kernel
theorem dX11_laysTrails_47 : decode cX11_laysTrails 47 = .ok (.iconst 0, 1) := by decide +kernel
theorem dX11_laysTrails_48 : decode cX11_laysTrails 48 = .ok (.istore_n 3, 1) := by decide +kernel
theorem dX11_laysTrails_49 : decode cX11_laysTrails 49 = .ok (.goto 103, 3) := by decide +kernel
theorem dX11_laysTrails_52 : decode cX11_laysTrails 52 = .ok (.iload_n 3, 1) := by decide +kernel
theorem dX11_laysTrails_53 : decode cX11_laysTrails 53 = .ok (.ifCond .ne 64, 3) := by decide +kernel
theorem dX11_laysTrails_56 : decode cX11_laysTrails 56 = .ok (.aload_n 0, 1) := by decide +kernel
theorem dX11_laysTrails_57 : decode cX11_laysTrails 57 = .ok (.getfield 84, 3) := by decide +kernel
theorem dX11_laysTrails_60 : decode cX11_laysTrails 60 = .ok (.aload_n 0, 1) := by decide +kernel
theorem dX11_laysTrails_61 : decode cX11_laysTrails 61 = .ok (.getfield 296, 3) := by decide +kernel
theorem dX11_laysTrails_64 : decode cX11_laysTrails 64 = .ok (.iload_n 1, 1) := by decide +kernel
theorem dX11_laysTrails_65 : decode cX11_laysTrails 65 = .ok (.iastore, 1) := by decide +kernel
theorem dX11_laysTrails_66 : decode cX11_laysTrails 66 = .ok (.aload_n 0, 1) := by decide +kernel
theorem dX11_laysTrails_67 : decode cX11_laysTrails 67 = .ok (.getfield 87, 3) := by decide +kernel
theorem dX11_laysTrails_70 : decode cX11_laysTrails 70 = .ok (.aload_n 0, 1) := by decide +kernel
theorem dX11_laysTrails_71 : decode cX11_laysTrails 71 = .ok (.getfield 296, 3) := by decide +kernel
theorem dX11_laysTrails_74 : decode cX11_laysTrails 74 = .ok (.iload_n 2, 1) := by decide +kernel
theorem dX11_laysTrails_75 : decode cX11_laysTrails 75 = .ok (.iload 4, 2) := by decide +kernel
theorem dX11_laysTrails_77 : decode cX11_laysTrails 77 = .ok (.iadd, 1) := by decide +kernel
theorem dX11_laysTrails_78 : decode cX11_laysTrails 78 = .ok (.iastore, 1) := by decide +kernel
theorem dX11_laysTrails_79 : decode cX11_laysTrails 79 = .ok (.aload_n 0, 1) := by decide +kernel
theorem dX11_laysTrails_80 : decode cX11_laysTrails 80 = .ok (.getfield 90, 3) := by decide +kernel
theorem dX11_laysTrails_83 : decode cX11_laysTrails 83 = .ok (.aload_n 0, 1) := by decide +kernel
theorem dX11_laysTrails_84 : decode cX11_laysTrails 84 = .ok (.getfield 296, 3) := by decide +kernel
theorem dX11_laysTrails_87 : decode cX11_laysTrails 87 = .ok (.iconst 0, 1) := by decide +kernel
theorem dX11_laysTrails_88 : decode cX11_laysTrails 88 = .ok (.iastore, 1) := by decide +kernel
theorem dX11_laysTrails_89 : decode cX11_laysTrails 89 = .ok (.aload_n 0, 1) := by decide +kernel
theorem dX11_laysTrails_90 : decode cX11_laysTrails 90 = .ok (.getfield 93, 3) := by decide +kernel
theorem dX11_laysTrails_93 : decode cX11_laysTrails 93 = .ok (.aload_n 0, 1) := by decide +kernel
theorem dX11_laysTrails_94 : decode cX11_laysTrails 94 = .ok (.getfield 296, 3) := by decide +kernel
theorem dX11_laysTrails_97 : decode cX11_laysTrails 97 = .ok (.aload_n 0, 1) := by decide +kernel
theorem dX11_laysTrails_98 : decode cX11_laysTrails 98 = .ok (.getfield 69, 3) := by decide +kernel
theorem dX11_laysTrails_101 : decode cX11_laysTrails 101 = .ok (.iload 4, 2) := by decide +kernel
theorem dX11_laysTrails_103 : decode cX11_laysTrails 103 = .ok (.iaload, 1) := by decide +kernel
theorem dX11_laysTrails_104 : decode cX11_laysTrails 104 = .ok (.iastore, 1) := by decide +kernel
theorem dX11_laysTrails_105 : decode cX11_laysTrails 105 = .ok (.aload_n 0, 1) := by decide +kernel
theorem dX11_laysTrails_106 : decode cX11_laysTrails 106 = .ok (.dup, 1) := by decide +kernel
theorem dX11_laysTrails_107 : decode cX11_laysTrails 107 = .ok (.getfield 296, 3) := by decide +kernel
theorem dX11_laysTrails_110 : decode cX11_laysTrails 110 = .ok (.iconst 1, 1) := by decide +kernel
theorem dX11_laysTrails_111 : decode cX11_laysTrails 111 = .ok (.iadd, 1) := by decide +kernel
theorem dX11_laysTrails_112 : decode cX11_laysTrails 112 = .ok (.putfield 296, 3) := by decide +kernel
theorem dX11_laysTrails_115 : decode cX11_laysTrails 115 = .ok (.iconst 1, 1) := by decide +kernel
theorem dX11_laysTrails_116 : decode cX11_laysTrails 116 = .ok (.istore_n 3, 1) := by decide +kernel
theorem dX11_laysTrails_117 : decode cX11_laysTrails 117 = .ok (.aload_n 0, 1) := by decide +kernel
theorem dX11_laysTrails_118 : decode cX11_laysTrails 118 = .ok (.getfield 90, 3) := by decide +kernel
theorem dX11_laysTrails_121 : decode cX11_laysTrails 121 = .ok (.aload_n 0, 1) := by decide +kernel
theorem dX11_laysTrails_122 : decode cX11_laysTrails 122 = .ok (.getfield 296, 3) := by decide +kernel
theorem dX11_laysTrails_125 : decode cX11_laysTrails 125 = .ok (.iconst 1, 1) := by decide +kernel
theorem dX11_laysTrails_126 : decode cX11_laysTrails 126 = .ok (.isub, 1) := by decide +kernel
theorem dX11_laysTrails_127 : decode cX11_laysTrails 127 = .ok (.dup2, 1) := by decide +kernel
theorem dX11_laysTrails_128 : decode cX11_laysTrails 128 = .ok (.iaload, 1) := by decide +kernel
theorem dX11_laysTrails_129 : decode cX11_laysTrails 129 = .ok (.iconst 1, 1) := by decide +kernel
theorem dX11_laysTrails_130 : decode cX11_laysTrails 130 = .ok (.iadd, 1) := by decide +kernel
theorem dX11_laysTrails_131 : decode cX11_laysTrails 131 = .ok (.iastore, 1) := by decide +kernel
theorem dX11_laysTrails_132 : decode cX11_laysTrails 132 = .ok (.aload_n 0, 1) := by decide +kernel
theorem dX11_laysTrails_133 : decode cX11_laysTrails 133 = .ok (.getfield 96, 3) := by decide +kernel
theorem dX11_laysTrails_136 : decode cX11_laysTrails 136 = .ok (.aload_n 0, 1) := by decide +kernel
theorem dX11_laysTrails_137 : decode cX11_laysTrails 137 = .ok (.getfield 296, 3) := by decide +kernel
theorem dX11_laysTrails_140 : decode cX11_laysTrails 140 = .ok (.iconst 1, 1) := by decide +kernel
theorem dX11_laysTrails_141 : decode cX11_laysTrails 141 = .ok (.isub, 1) := by decide +kernel
theorem dX11_laysTrails_142 : decode cX11_laysTrails 142 = .ok (.aload_n 0, 1) := by decide +kernel
theorem dX11_laysTrails_143 : decode cX11_laysTrails 143 = .ok (.getfield 69, 3) := by decide +kernel
theorem dX11_laysTrails_146 : decode cX11_laysTrails 146 = .ok (.iload 4, 2) := by decide +kernel
theorem dX11_laysTrails_148 : decode cX11_laysTrails 148 = .ok (.iconst 1, 1) := by decide +kernel
theorem dX11_laysTrails_149 : decode cX11_laysTrails 149 = .ok (.iadd, 1) := by decide +kernel
theorem dX11_laysTrails_150 : decode cX11_laysTrails 150 = .ok (.iaload, 1) := by decide +kernel
theorem dX11_laysTrails_151 : decode cX11_laysTrails 151 = .ok (.iastore, 1) := by decide +kernel
theorem dX11_laysTrails_152 : decode cX11_laysTrails 152 = .ok (.iinc 4 1, 3) := by decide +kernel
theorem dX11_laysTrails_155 : decode cX11_laysTrails 155 = .ok (.goto (-143), 3) := by decide +kernel
theorem dX11_laysTrails_158 : decode cX11_laysTrails 158 = .ok (.aload_n 0, 1) := by decide +kernel
theorem dX11_laysTrails_159 : decode cX11_laysTrails 159 = .ok (.getfield 78, 3) := by decide +kernel
theorem dX11_laysTrails_162 : decode cX11_laysTrails 162 = .ok (.iload_n 1, 1) := by decide +kernel
theorem dX11_laysTrails_163 : decode cX11_laysTrails 163 = .ok (.iconst 1, 1) := by decide +kernel
theorem dX11_laysTrails_164 : decode cX11_laysTrails 164 = .ok (.iadd, 1) := by decide +kernel
theorem dX11_laysTrails_165 : decode cX11_laysTrails 165 = .ok (.iload_n 2, 1) := by decide +kernel
theorem dX11_laysTrails_166 : decode cX11_laysTrails 166 = .ok (.aload_n 0, 1) := by decide +kernel
theorem dX11_laysTrails_167 : decode cX11_laysTrails 167 = .ok (.getfield 290, 3) := by decide +kernel
theorem dX11_laysTrails_170 : decode cX11_laysTrails 170 = .ok (.iadd, 1) := by decide +kernel
theorem dX11_laysTrails_171 : decode cX11_laysTrails 171 = .ok (.iastore, 1) := by decide +kernel
theorem dX11_laysTrails_172 : decode cX11_laysTrails 172 = .ok (.return_, 1) := by decide +kernel
theorem dX11_reckons_0 : decode cX11_reckons 0 = .ok (.aload_n 0, 1) := by decide +kernel
theorem dX11_reckons_1 : decode cX11_reckons 1 = .ok (.invokevirtual 299, 3) := by decide +kernel
theorem dX11_reckons_4 : decode cX11_reckons 4 = .ok (.aload_n 0, 1) := by decide +kernel
theorem dX11_reckons_5 : decode cX11_reckons 5 = .ok (.invokevirtual 302, 3) := by decide +kernel
theorem dX11_reckons_8 : decode cX11_reckons 8 = .ok (.iconst 0, 1) := by decide +kernel
theorem dX11_reckons_9 : decode cX11_reckons 9 = .ok (.istore_n 1, 1) := by decide +kernel
theorem dX11_reckons_10 : decode cX11_reckons 10 = .ok (.iload_n 1, 1) := by decide +kernel
theorem dX11_reckons_11 : decode cX11_reckons 11 = .ok (.bipush 24, 2) := by decide +kernel
theorem dX11_reckons_13 : decode cX11_reckons 13 = .ok (.if_icmp .ge 16, 3) := by decide +kernel
theorem dX11_reckons_16 : decode cX11_reckons 16 = .ok (.aload_n 0, 1) := by decide +kernel
theorem dX11_reckons_17 : decode cX11_reckons 17 = .ok (.getfield 59, 3) := by decide +kernel
theorem dX11_reckons_20 : decode cX11_reckons 20 = .ok (.iload_n 1, 1) := by decide +kernel
theorem dX11_reckons_21 : decode cX11_reckons 21 = .ok (.iconst 0, 1) := by decide +kernel
theorem dX11_reckons_22 : decode cX11_reckons 22 = .ok (.bastore, 1) := by decide +kernel
theorem dX11_reckons_23 : decode cX11_reckons 23 = .ok (.iinc 1 1, 3) := by decide +kernel
theorem dX11_reckons_26 : decode cX11_reckons 26 = .ok (.goto (-16), 3) := by decide +kernel
theorem dX11_reckons_29 : decode cX11_reckons 29 = .ok (.iconst 0, 1) := by decide +kernel
theorem dX11_reckons_30 : decode cX11_reckons 30 = .ok (.istore_n 1, 1) := by decide +kernel
theorem dX11_reckons_31 : decode cX11_reckons 31 = .ok (.iload_n 1, 1) := by decide +kernel
theorem dX11_reckons_32 : decode cX11_reckons 32 = .ok (.bipush 24, 2) := by decide +kernel
theorem dX11_reckons_34 : decode cX11_reckons 34 = .ok (.if_icmp .ge 16, 3) := by decide +kernel
theorem dX11_reckons_37 : decode cX11_reckons 37 = .ok (.aload_n 0, 1) := by decide +kernel
theorem dX11_reckons_38 : decode cX11_reckons 38 = .ok (.getfield 63, 3) := by decide +kernel
theorem dX11_reckons_41 : decode cX11_reckons 41 = .ok (.iload_n 1, 1) := by decide +kernel
theorem dX11_reckons_42 : decode cX11_reckons 42 = .ok (.iconst 0, 1) := by decide +kernel
theorem dX11_reckons_43 : decode cX11_reckons 43 = .ok (.bastore, 1) := by decide +kernel
theorem dX11_reckons_44 : decode cX11_reckons 44 = .ok (.iinc 1 1, 3) := by decide +kernel
theorem dX11_reckons_47 : decode cX11_reckons 47 = .ok (.goto (-16), 3) := by decide +kernel
theorem dX11_reckons_50 : decode cX11_reckons 50 = .ok (.aload_n 0, 1) := by decide +kernel
theorem dX11_reckons_51 : decode cX11_reckons 51 = .ok (.iconst 0, 1) := by decide +kernel
theorem dX11_reckons_52 : decode cX11_reckons 52 = .ok (.putfield 296, 3) := by decide +kernel
theorem dX11_reckons_55 : decode cX11_reckons 55 = .ok (.aload_n 0, 1) := by decide +kernel
theorem dX11_reckons_56 : decode cX11_reckons 56 = .ok (.getfield 78, 3) := by decide +kernel
theorem dX11_reckons_59 : decode cX11_reckons 59 = .ok (.iconst 0, 1) := by decide +kernel
theorem dX11_reckons_60 : decode cX11_reckons 60 = .ok (.iconst 0, 1) := by decide +kernel
theorem dX11_reckons_61 : decode cX11_reckons 61 = .ok (.iastore, 1) := by decide +kernel
theorem dX11_reckons_62 : decode cX11_reckons 62 = .ok (.iconst 0, 1) := by decide +kernel
theorem dX11_reckons_63 : decode cX11_reckons 63 = .ok (.istore_n 1, 1) := by decide +kernel
theorem dX11_reckons_64 : decode cX11_reckons 64 = .ok (.iload_n 1, 1) := by decide +kernel
theorem dX11_reckons_65 : decode cX11_reckons 65 = .ok (.aload_n 0, 1) := by decide +kernel
theorem dX11_reckons_66 : decode cX11_reckons 66 = .ok (.getfield 255, 3) := by decide +kernel
theorem dX11_reckons_69 : decode cX11_reckons 69 = .ok (.if_icmp .ge 19, 3) := by decide +kernel
theorem dX11_reckons_72 : decode cX11_reckons 72 = .ok (.aload_n 0, 1) := by decide +kernel
theorem dX11_reckons_73 : decode cX11_reckons 73 = .ok (.iload_n 1, 1) := by decide +kernel
theorem dX11_reckons_74 : decode cX11_reckons 74 = .ok (.invokevirtual 305, 3) := by decide +kernel
theorem dX11_reckons_77 : decode cX11_reckons 77 = .ok (.aload_n 0, 1) := by decide +kernel
theorem dX11_reckons_78 : decode cX11_reckons 78 = .ok (.iload_n 1, 1) := by decide +kernel
theorem dX11_reckons_79 : decode cX11_reckons 79 = .ok (.invokevirtual 308, 3) := by decide +kernel
theorem dX11_reckons_82 : decode cX11_reckons 82 = .ok (.iinc 1 1, 3) := by decide +kernel
theorem dX11_reckons_85 : decode cX11_reckons 85 = .ok (.goto (-21), 3) := by decide +kernel
theorem dX11_reckons_88 : decode cX11_reckons 88 = .ok (.return_, 1) := by decide +kernel
theorem dX11_plansAnew_0 : decode cX11_plansAnew 0 = .ok (.aload_n 0, 1) := by decide +kernel
theorem dX11_plansAnew_1 : decode cX11_plansAnew 1 = .ok (.invokevirtual 311, 3) := by decide +kernel
theorem dX11_plansAnew_4 : decode cX11_plansAnew 4 = .ok (.aload_n 0, 1) := by decide +kernel
theorem dX11_plansAnew_5 : decode cX11_plansAnew 5 = .ok (.getfield 17, 3) := by decide +kernel
theorem dX11_plansAnew_8 : decode cX11_plansAnew 8 = .ok (.bipush 103, 2) := by decide +kernel
theorem dX11_plansAnew_10 : decode cX11_plansAnew 10 = .ok (.aload_n 0, 1) := by decide +kernel
theorem dX11_plansAnew_11 : decode cX11_plansAnew 11 = .ok (.getfield 296, 3) := by decide +kernel
theorem dX11_plansAnew_14 : decode cX11_plansAnew 14 = .ok (.iastore, 1) := by decide +kernel
theorem dX11_plansAnew_15 : decode cX11_plansAnew 15 = .ok (.iconst 0, 1) := by decide +kernel
theorem dX11_plansAnew_16 : decode cX11_plansAnew 16 = .ok (.istore_n 1, 1) := by decide +kernel
theorem dX11_plansAnew_17 : decode cX11_plansAnew 17 = .ok (.iload_n 1, 1) := by decide +kernel
theorem dX11_plansAnew_18 : decode cX11_plansAnew 18 = .ok (.aload_n 0, 1) := by decide +kernel
theorem dX11_plansAnew_19 : decode cX11_plansAnew 19 = .ok (.getfield 296, 3) := by decide +kernel
theorem dX11_plansAnew_22 : decode cX11_plansAnew 22 = .ok (.if_icmp .ge 30, 3) := by decide +kernel
theorem dX11_plansAnew_25 : decode cX11_plansAnew 25 = .ok (.aload_n 0, 1) := by decide +kernel
theorem dX11_plansAnew_26 : decode cX11_plansAnew 26 = .ok (.getfield 17, 3) := by decide +kernel
theorem dX11_plansAnew_29 : decode cX11_plansAnew 29 = .ok (.bipush 104, 2) := by decide +kernel
theorem dX11_plansAnew_31 : decode cX11_plansAnew 31 = .ok (.iload_n 1, 1) := by decide +kernel
theorem dX11_plansAnew_32 : decode cX11_plansAnew 32 = .ok (.iadd, 1) := by decide +kernel
theorem dX11_plansAnew_33 : decode cX11_plansAnew 33 = .ok (.iload_n 1, 1) := by decide +kernel
theorem dX11_plansAnew_34 : decode cX11_plansAnew 34 = .ok (.iastore, 1) := by decide +kernel
theorem dX11_plansAnew_35 : decode cX11_plansAnew 35 = .ok (.aload_n 0, 1) := by decide +kernel
theorem dX11_plansAnew_36 : decode cX11_plansAnew 36 = .ok (.getfield 17, 3) := by decide +kernel
theorem dX11_plansAnew_39 : decode cX11_plansAnew 39 = .ok (.sipush 128, 3) := by decide +kernel
theorem dX11_plansAnew_42 : decode cX11_plansAnew 42 = .ok (.iload_n 1, 1) := by decide +kernel
theorem dX11_plansAnew_43 : decode cX11_plansAnew 43 = .ok (.iadd, 1) := by decide +kernel
theorem dX11_plansAnew_44 : decode cX11_plansAnew 44 = .ok (.iconst 0, 1) := by decide +kernel
theorem dX11_plansAnew_45 : decode cX11_plansAnew 45 = .ok (.iastore, 1) := by decide +kernel
theorem dX11_plansAnew_46 : decode cX11_plansAnew 46 = .ok (.iinc 1 1, 3) := by decide +kernel
theorem dX11_plansAnew_49 : decode cX11_plansAnew 49 = .ok (.goto (-32), 3) := by decide +kernel
theorem dX11_plansAnew_52 : decode cX11_plansAnew 52 = .ok (.return_, 1) := by decide +kernel
theorem dX11_isAsked_0 : decode cX11_isAsked 0 = .ok (.aload_n 0, 1) := by decide +kernel
theorem dX11_isAsked_1 : decode cX11_isAsked 1 = .ok (.aload_n 0, 1) := by decide +kernel
theorem dX11_isAsked_2 : decode cX11_isAsked 2 = .ok (.getfield 223, 3) := by decide +kernel
theorem dX11_isAsked_5 : decode cX11_isAsked 5 = .ok (.ifCond .eq 11, 3) := by decide +kernel
theorem dX11_isAsked_8 : decode cX11_isAsked 8 = .ok (.iload_n 1, 1) := by decide +kernel
theorem dX11_isAsked_9 : decode cX11_isAsked 9 = .ok (.ifCond .eq 7, 3) := by decide +kernel
theorem dX11_isAsked_12 : decode cX11_isAsked 12 = .ok (.iconst 1, 1) := by decide +kernel
theorem dX11_isAsked_13 : decode cX11_isAsked 13 = .ok (.goto 4, 3) := by decide +kernel
theorem dX11_isAsked_16 : decode cX11_isAsked 16 = .ok (.iconst 0, 1) := by decide +kernel
theorem dX11_isAsked_17 : decode cX11_isAsked 17 = .ok (.invokestatic 314, 3) := by decide +kernel
theorem dX11_isAsked_20 : decode cX11_isAsked 20 = .ok (.invokevirtual 207, 3) := by decide +kernel
theorem dX11_isAsked_23 : decode cX11_isAsked 23 = .ok (.ifCond .eq 5, 3) := by decide +kernel
theorem dX11_isAsked_26 : decode cX11_isAsked 26 = .ok (.iconst 0, 1) := by decide +kernel
theorem dX11_isAsked_27 : decode cX11_isAsked 27 = .ok (.ireturn, 1) := by decide +kernel
theorem dX11_isAsked_28 : decode cX11_isAsked 28 = .ok (.aload_n 0, 1) := by decide +kernel
theorem dX11_isAsked_29 : decode cX11_isAsked 29 = .ok (.invokevirtual 311, 3) := by decide +kernel
theorem dX11_isAsked_32 : decode cX11_isAsked 32 = .ok (.iconst 1, 1) := by decide +kernel
theorem dX11_isAsked_33 : decode cX11_isAsked 33 = .ok (.ireturn, 1) := by decide +kernel
theorem dX11_oddAll_0 : decode cX11_oddAll 0 = .ok (.iconst 0, 1) := by decide +kernel
theorem dX11_oddAll_1 : decode cX11_oddAll 1 = .ok (.istore_n 1, 1) := by decide +kernel
theorem dX11_oddAll_2 : decode cX11_oddAll 2 = .ok (.iconst 0, 1) := by decide +kernel
theorem dX11_oddAll_3 : decode cX11_oddAll 3 = .ok (.istore_n 2, 1) := by decide +kernel
theorem dX11_oddAll_4 : decode cX11_oddAll 4 = .ok (.iload_n 2, 1) := by decide +kernel
theorem dX11_oddAll_5 : decode cX11_oddAll 5 = .ok (.aload_n 0, 1) := by decide +kernel
theorem dX11_oddAll_6 : decode cX11_oddAll 6 = .ok (.getfield 249, 3) := by decide +kernel
theorem dX11_oddAll_9 : decode cX11_oddAll 9 = .ok (.if_icmp .ge 25, 3) := by decide +kernel
theorem dX11_oddAll_12 : decode cX11_oddAll 12 = .ok (.iload_n 1, 1) := by decide +kernel
theorem dX11_oddAll_13 : decode cX11_oddAll 13 = .ok (.aload_n 0, 1) := by decide +kernel
theorem dX11_oddAll_14 : decode cX11_oddAll 14 = .ok (.iload_n 2, 1) := by decide +kernel
theorem dX11_oddAll_15 : decode cX11_oddAll 15 = .ok (.invokevirtual 264, 3) := by decide +kernel
theorem dX11_oddAll_18 : decode cX11_oddAll 18 = .ok (.ifCond .eq 7, 3) := by decide +kernel
theorem dX11_oddAll_21 : decode cX11_oddAll 21 = .ok (.iconst 1, 1) := by decide +kernel
theorem dX11_oddAll_22 : decode cX11_oddAll 22 = .ok (.goto 4, 3) := by decide +kernel
theorem dX11_oddAll_25 : decode cX11_oddAll 25 = .ok (.iconst 0, 1) := by decide +kernel
theorem dX11_oddAll_26 : decode cX11_oddAll 26 = .ok (.iadd, 1) := by decide +kernel
theorem dX11_oddAll_27 : decode cX11_oddAll 27 = .ok (.istore_n 1, 1) := by decide +kernel
theorem dX11_oddAll_28 : decode cX11_oddAll 28 = .ok (.iinc 2 1, 3) := by decide +kernel
theorem dX11_oddAll_31 : decode cX11_oddAll 31 = .ok (.goto (-27), 3) := by decide +kernel
theorem dX11_oddAll_34 : decode cX11_oddAll 34 = .ok (.iload_n 1, 1) := by decide +kernel
theorem dX11_oddAll_35 : decode cX11_oddAll 35 = .ok (.ireturn, 1) := by decide +kernel
theorem dX11_about_0 : decode cX11_about 0 = .ok (.aload_n 0, 1) := by decide +kernel
theorem dX11_about_1 : decode cX11_about 1 = .ok (.iload_n 1, 1) := by decide +kernel
theorem dX11_about_2 : decode cX11_about 2 = .ok (.iconst 0, 1) := by decide +kernel
theorem dX11_about_3 : decode cX11_about 3 = .ok (.bipush 10, 2) := by decide +kernel
theorem dX11_about_5 : decode cX11_about 5 = .ok (.invokestatic 128, 3) := by decide +kernel
theorem dX11_about_8 : decode cX11_about 8 = .ok (.invokevirtual 318, 3) := by decide +kernel
theorem dX11_about_11 : decode cX11_about 11 = .ok (.ifCond .ne 5, 3) := by decide +kernel
theorem dX11_about_14 : decode cX11_about 14 = .ok (.iconst (-1), 1) := by decide +kernel
theorem dX11_about_15 : decode cX11_about 15 = .ok (.ireturn, 1) := by decide +kernel
theorem dX11_about_16 : decode cX11_about 16 = .ok (.iload_n 1, 1) := by decide +kernel
theorem dX11_about_17 : decode cX11_about 17 = .ok (.tableswitch 51 7 10 #[31, 36, 41, 46], 31) := by decide +kernel
theorem dX11_about_48 : decode cX11_about 48 = .ok (.aload_n 0, 1) := by decide +kernel
theorem dX11_about_49 : decode cX11_about 49 = .ok (.getfield 249, 3) := by decide +kernel
theorem dX11_about_52 : decode cX11_about 52 = .ok (.ireturn, 1) := by decide +kernel
theorem dX11_about_53 : decode cX11_about 53 = .ok (.aload_n 0, 1) := by decide +kernel
theorem dX11_about_54 : decode cX11_about 54 = .ok (.getfield 255, 3) := by decide +kernel
theorem dX11_about_57 : decode cX11_about 57 = .ok (.ireturn, 1) := by decide +kernel
theorem dX11_about_58 : decode cX11_about 58 = .ok (.aload_n 0, 1) := by decide +kernel
theorem dX11_about_59 : decode cX11_about 59 = .ok (.invokevirtual 322, 3) := by decide +kernel
theorem dX11_about_62 : decode cX11_about 62 = .ok (.ireturn, 1) := by decide +kernel
theorem dX11_about_63 : decode cX11_about 63 = .ok (.aload_n 0, 1) := by decide +kernel
theorem dX11_about_64 : decode cX11_about 64 = .ok (.getfield 296, 3) := by decide +kernel
theorem dX11_about_67 : decode cX11_about 67 = .ok (.ireturn, 1) := by decide +kernel
theorem dX11_about_68 : decode cX11_about 68 = .ok (.aload_n 0, 1) := by decide +kernel
theorem dX11_about_69 : decode cX11_about 69 = .ok (.getfield 17, 3) := by decide +kernel
theorem dX11_about_72 : decode cX11_about 72 = .ok (.iload_n 1, 1) := by decide +kernel
theorem dX11_about_73 : decode cX11_about 73 = .ok (.iaload, 1) := by decide +kernel
theorem dX11_about_74 : decode cX11_about 74 = .ok (.ireturn, 1) := by decide +kernel
theorem dX11_stroke_0 : decode cX11_stroke 0 = .ok (.aload_n 0, 1) := by decide +kernel
theorem dX11_stroke_1 : decode cX11_stroke 1 = .ok (.aload_n 0, 1) := by decide +kernel
theorem dX11_stroke_2 : decode cX11_stroke 2 = .ok (.getfield 223, 3) := by decide +kernel
theorem dX11_stroke_5 : decode cX11_stroke 5 = .ok (.ifCond .eq 33, 3) := by decide +kernel
theorem dX11_stroke_8 : decode cX11_stroke 8 = .ok (.iload_n 1, 1) := by decide +kernel
theorem dX11_stroke_9 : decode cX11_stroke 9 = .ok (.iconst 0, 1) := by decide +kernel
theorem dX11_stroke_10 : decode cX11_stroke 10 = .ok (.aload_n 0, 1) := by decide +kernel
theorem dX11_stroke_11 : decode cX11_stroke 11 = .ok (.getfield 17, 3) := by decide +kernel
theorem dX11_stroke_14 : decode cX11_stroke 14 = .ok (.iconst 2, 1) := by decide +kernel
theorem dX11_stroke_15 : decode cX11_stroke 15 = .ok (.iaload, 1) := by decide +kernel
theorem dX11_stroke_16 : decode cX11_stroke 16 = .ok (.iconst 1, 1) := by decide +kernel
theorem dX11_stroke_17 : decode cX11_stroke 17 = .ok (.isub, 1) := by decide +kernel
theorem dX11_stroke_18 : decode cX11_stroke 18 = .ok (.invokestatic 128, 3) := by decide +kernel
theorem dX11_stroke_21 : decode cX11_stroke 21 = .ok (.ifCond .eq 17, 3) := by decide +kernel
theorem dX11_stroke_24 : decode cX11_stroke 24 = .ok (.iload_n 2, 1) := by decide +kernel
theorem dX11_stroke_25 : decode cX11_stroke 25 = .ok (.iconst 0, 1) := by decide +kernel
theorem dX11_stroke_26 : decode cX11_stroke 26 = .ok (.bipush 6, 2) := by decide +kernel
theorem dX11_stroke_28 : decode cX11_stroke 28 = .ok (.invokestatic 128, 3) := by decide +kernel
theorem dX11_stroke_31 : decode cX11_stroke 31 = .ok (.ifCond .eq 7, 3) := by decide +kernel
theorem dX11_stroke_34 : decode cX11_stroke 34 = .ok (.iconst 1, 1) := by decide +kernel
theorem dX11_stroke_35 : decode cX11_stroke 35 = .ok (.goto 4, 3) := by decide +kernel
theorem dX11_stroke_38 : decode cX11_stroke 38 = .ok (.iconst 0, 1) := by decide +kernel
theorem dX11_stroke_39 : decode cX11_stroke 39 = .ok (.invokevirtual 318, 3) := by decide +kernel
theorem dX11_stroke_42 : decode cX11_stroke 42 = .ok (.ifCond .ne 5, 3) := by decide +kernel
theorem dX11_stroke_45 : decode cX11_stroke 45 = .ok (.iconst (-1), 1) := by decide +kernel
theorem dX11_stroke_46 : decode cX11_stroke 46 = .ok (.ireturn, 1) := by decide +kernel
theorem dX11_stroke_47 : decode cX11_stroke 47 = .ok (.iload_n 2, 1) := by decide +kernel
theorem dX11_stroke_48 : decode cX11_stroke 48 = .ok (.iconst 4, 1) := by decide +kernel
theorem dX11_stroke_49 : decode cX11_stroke 49 = .ok (.if_icmp .ge 19, 3) := by decide +kernel
theorem dX11_stroke_52 : decode cX11_stroke 52 = .ok (.aload_n 0, 1) := by decide +kernel
theorem dX11_stroke_53 : decode cX11_stroke 53 = .ok (.getfield 17, 3) := by decide +kernel
theorem dX11_stroke_56 : decode cX11_stroke 56 = .ok (.bipush 7, 2) := by decide +kernel
theorem dX11_stroke_58 : decode cX11_stroke 58 = .ok (.iconst 4, 1) := by decide +kernel
theorem dX11_stroke_59 : decode cX11_stroke 59 = .ok (.iload_n 1, 1) := by decide +kernel
theorem dX11_stroke_60 : decode cX11_stroke 60 = .ok (.imul, 1) := by decide +kernel
theorem dX11_stroke_61 : decode cX11_stroke 61 = .ok (.iadd, 1) := by decide +kernel
theorem dX11_stroke_62 : decode cX11_stroke 62 = .ok (.iload_n 2, 1) := by decide +kernel
theorem dX11_stroke_63 : decode cX11_stroke 63 = .ok (.iadd, 1) := by decide +kernel
theorem dX11_stroke_64 : decode cX11_stroke 64 = .ok (.iaload, 1) := by decide +kernel
theorem dX11_stroke_65 : decode cX11_stroke 65 = .ok (.goto 35, 3) := by decide +kernel
theorem dX11_stroke_68 : decode cX11_stroke 68 = .ok (.iload_n 2, 1) := by decide +kernel
theorem dX11_stroke_69 : decode cX11_stroke 69 = .ok (.iconst 4, 1) := by decide +kernel
theorem dX11_stroke_70 : decode cX11_stroke 70 = .ok (.if_icmp .ne 18, 3) := by decide +kernel
theorem dX11_stroke_73 : decode cX11_stroke 73 = .ok (.aload_n 0, 1) := by decide +kernel
theorem dX11_stroke_74 : decode cX11_stroke 74 = .ok (.iconst 2, 1) := by decide +kernel
theorem dX11_stroke_75 : decode cX11_stroke 75 = .ok (.iload_n 1, 1) := by decide +kernel
theorem dX11_stroke_76 : decode cX11_stroke 76 = .ok (.imul, 1) := by decide +kernel
theorem dX11_stroke_77 : decode cX11_stroke 77 = .ok (.iconst 2, 1) := by decide +kernel
theorem dX11_stroke_78 : decode cX11_stroke 78 = .ok (.iload_n 1, 1) := by decide +kernel
theorem dX11_stroke_79 : decode cX11_stroke 79 = .ok (.imul, 1) := by decide +kernel
theorem dX11_stroke_80 : decode cX11_stroke 80 = .ok (.iconst 1, 1) := by decide +kernel
theorem dX11_stroke_81 : decode cX11_stroke 81 = .ok (.iadd, 1) := by decide +kernel
theorem dX11_stroke_82 : decode cX11_stroke 82 = .ok (.invokevirtual 241, 3) := by decide +kernel
theorem dX11_stroke_85 : decode cX11_stroke 85 = .ok (.goto 15, 3) := by decide +kernel
theorem dX11_stroke_88 : decode cX11_stroke 88 = .ok (.aload_n 0, 1) := by decide +kernel
theorem dX11_stroke_89 : decode cX11_stroke 89 = .ok (.getfield 29, 3) := by decide +kernel
theorem dX11_stroke_92 : decode cX11_stroke 92 = .ok (.iconst 2, 1) := by decide +kernel
theorem dX11_stroke_93 : decode cX11_stroke 93 = .ok (.iload_n 1, 1) := by decide +kernel
theorem dX11_stroke_94 : decode cX11_stroke 94 = .ok (.imul, 1) := by decide +kernel
theorem dX11_stroke_95 : decode cX11_stroke 95 = .ok (.iload_n 2, 1) := by decide +kernel
theorem dX11_stroke_96 : decode cX11_stroke 96 = .ok (.iadd, 1) := by decide +kernel
theorem dX11_stroke_97 : decode cX11_stroke 97 = .ok (.iconst 5, 1) := by decide +kernel
theorem dX11_stroke_98 : decode cX11_stroke 98 = .ok (.isub, 1) := by decide +kernel
theorem dX11_stroke_99 : decode cX11_stroke 99 = .ok (.iaload, 1) := by decide +kernel
theorem dX11_stroke_100 : decode cX11_stroke 100 = .ok (.ireturn, 1) := by decide +kernel
theorem dX11_meeting_0 : decode cX11_meeting 0 = .ok (.aload_n 0, 1) := by decide +kernel
theorem dX11_meeting_1 : decode cX11_meeting 1 = .ok (.iload_n 2, 1) := by decide +kernel
theorem dX11_meeting_2 : decode cX11_meeting 2 = .ok (.iconst 0, 1) := by decide +kernel
theorem dX11_meeting_3 : decode cX11_meeting 3 = .ok (.iconst 4, 1) := by decide +kernel
theorem dX11_meeting_4 : decode cX11_meeting 4 = .ok (.invokestatic 128, 3) := by decide +kernel
theorem dX11_meeting_7 : decode cX11_meeting 7 = .ok (.invokevirtual 318, 3) := by decide +kernel
theorem dX11_meeting_10 : decode cX11_meeting 10 = .ok (.ifCond .ne 5, 3) := by decide +kernel
theorem dX11_meeting_13 : decode cX11_meeting 13 = .ok (.iconst (-1), 1) := by decide +kernel
theorem dX11_meeting_14 : decode cX11_meeting 14 = .ok (.ireturn, 1) := by decide +kernel
theorem dX11_meeting_15 : decode cX11_meeting 15 = .ok (.iload_n 1, 1) := by decide +kernel
theorem dX11_meeting_16 : decode cX11_meeting 16 = .ok (.iconst 0, 1) := by decide +kernel
theorem dX11_meeting_17 : decode cX11_meeting 17 = .ok (.aload_n 0, 1) := by decide +kernel
theorem dX11_meeting_18 : decode cX11_meeting 18 = .ok (.getfield 249, 3) := by decide +kernel
theorem dX11_meeting_21 : decode cX11_meeting 21 = .ok (.iconst 1, 1) := by decide +kernel
theorem dX11_meeting_22 : decode cX11_meeting 22 = .ok (.isub, 1) := by decide +kernel
theorem dX11_meeting_23 : decode cX11_meeting 23 = .ok (.invokestatic 128, 3) := by decide +kernel
theorem dX11_meeting_26 : decode cX11_meeting 26 = .ok (.ifCond .ne 9, 3) := by decide +kernel
theorem dX11_meeting_29 : decode cX11_meeting 29 = .ok (.aload_n 0, 1) := by decide +kernel
theorem dX11_meeting_30 : decode cX11_meeting 30 = .ok (.iconst 1, 1) := by decide +kernel
theorem dX11_meeting_31 : decode cX11_meeting 31 = .ok (.invokevirtual 216, 3) := by decide +kernel
theorem dX11_meeting_34 : decode cX11_meeting 34 = .ok (.ireturn, 1) := by decide +kernel
theorem dX11_meeting_35 : decode cX11_meeting 35 = .ok (.iload_n 2, 1) := by decide +kernel
theorem dX11_meeting_36 : decode cX11_meeting 36 = .ok (.tableswitch 68 0 3 #[32, 43, 54, 61], 32) := by decide +kernel
theorem dX11_meeting_68 : decode cX11_meeting 68 = .ok (.aload_n 0, 1) := by decide +kernel
theorem dX11_meeting_69 : decode cX11_meeting 69 = .ok (.aload_n 0, 1) := by decide +kernel
theorem dX11_meeting_70 : decode cX11_meeting 70 = .ok (.getfield 32, 3) := by decide +kernel
theorem dX11_meeting_73 : decode cX11_meeting 73 = .ok (.iload_n 1, 1) := by decide +kernel
theorem dX11_meeting_74 : decode cX11_meeting 74 = .ok (.iaload, 1) := by decide +kernel
theorem dX11_meeting_75 : decode cX11_meeting 75 = .ok (.invokevirtual 232, 3) := by decide +kernel
theorem dX11_meeting_78 : decode cX11_meeting 78 = .ok (.ireturn, 1) := by decide +kernel
theorem dX11_meeting_79 : decode cX11_meeting 79 = .ok (.aload_n 0, 1) := by decide +kernel
theorem dX11_meeting_80 : decode cX11_meeting 80 = .ok (.aload_n 0, 1) := by decide +kernel
theorem dX11_meeting_81 : decode cX11_meeting 81 = .ok (.getfield 32, 3) := by decide +kernel
theorem dX11_meeting_84 : decode cX11_meeting 84 = .ok (.iload_n 1, 1) := by decide +kernel
theorem dX11_meeting_85 : decode cX11_meeting 85 = .ok (.iaload, 1) := by decide +kernel
theorem dX11_meeting_86 : decode cX11_meeting 86 = .ok (.invokevirtual 238, 3) := by decide +kernel
theorem dX11_meeting_89 : decode cX11_meeting 89 = .ok (.ireturn, 1) := by decide +kernel
theorem dX11_meeting_90 : decode cX11_meeting 90 = .ok (.aload_n 0, 1) := by decide +kernel
theorem dX11_meeting_91 : decode cX11_meeting 91 = .ok (.getfield 35, 3) := by decide +kernel
theorem dX11_meeting_94 : decode cX11_meeting 94 = .ok (.iload_n 1, 1) := by decide +kernel
theorem dX11_meeting_95 : decode cX11_meeting 95 = .ok (.iaload, 1) := by decide +kernel
theorem dX11_meeting_96 : decode cX11_meeting 96 = .ok (.ireturn, 1) := by decide +kernel
theorem dX11_meeting_97 : decode cX11_meeting 97 = .ok (.aload_n 0, 1) := by decide +kernel
theorem dX11_meeting_98 : decode cX11_meeting 98 = .ok (.getfield 38, 3) := by decide +kernel
theorem dX11_meeting_101 : decode cX11_meeting 101 = .ok (.iload_n 1, 1) := by decide +kernel
theorem dX11_meeting_102 : decode cX11_meeting 102 = .ok (.iaload, 1) := by decide +kernel
theorem dX11_meeting_103 : decode cX11_meeting 103 = .ok (.ireturn, 1) := by decide +kernel
theorem dX11_meeting_104 : decode cX11_meeting 104 = .ok (.aload_n 0, 1) := by decide +kernel
theorem dX11_meeting_105 : decode cX11_meeting 105 = .ok (.getfield 32, 3) := by decide +kernel
theorem dX11_meeting_108 : decode cX11_meeting 108 = .ok (.iload_n 1, 1) := by decide +kernel
theorem dX11_meeting_109 : decode cX11_meeting 109 = .ok (.iaload, 1) := by decide +kernel
theorem dX11_meeting_110 : decode cX11_meeting 110 = .ok (.ireturn, 1) := by decide +kernel
theorem dX11_strokesOf_0 : decode cX11_strokesOf 0 = .ok (.iconst 0, 1) := by decide +kernel
theorem dX11_strokesOf_1 : decode cX11_strokesOf 1 = .ok (.istore_n 2, 1) := by decide +kernel
theorem dX11_strokesOf_2 : decode cX11_strokesOf 2 = .ok (.iconst 0, 1) := by decide +kernel
theorem dX11_strokesOf_3 : decode cX11_strokesOf 3 = .ok (.istore_n 3, 1) := by decide +kernel
theorem dX11_strokesOf_4 : decode cX11_strokesOf 4 = .ok (.iload_n 3, 1) := by decide +kernel
theorem dX11_strokesOf_5 : decode cX11_strokesOf 5 = .ok (.aload_n 0, 1) := by decide +kernel
theorem dX11_strokesOf_6 : decode cX11_strokesOf 6 = .ok (.getfield 17, 3) := by decide +kernel
theorem dX11_strokesOf_9 : decode cX11_strokesOf 9 = .ok (.iconst 2, 1) := by decide +kernel
theorem dX11_strokesOf_10 : decode cX11_strokesOf 10 = .ok (.iaload, 1) := by decide +kernel
theorem dX11_strokesOf_11 : decode cX11_strokesOf 11 = .ok (.if_icmp .ge 34, 3) := by decide +kernel
theorem dX11_strokesOf_14 : decode cX11_strokesOf 14 = .ok (.iload_n 2, 1) := by decide +kernel
theorem dX11_strokesOf_15 : decode cX11_strokesOf 15 = .ok (.aload_n 0, 1) := by decide +kernel
theorem dX11_strokesOf_16 : decode cX11_strokesOf 16 = .ok (.getfield 38, 3) := by decide +kernel
theorem dX11_strokesOf_19 : decode cX11_strokesOf 19 = .ok (.aload_n 0, 1) := by decide +kernel
theorem dX11_strokesOf_20 : decode cX11_strokesOf 20 = .ok (.getfield 29, 3) := by decide +kernel
theorem dX11_strokesOf_23 : decode cX11_strokesOf 23 = .ok (.iconst 2, 1) := by decide +kernel
theorem dX11_strokesOf_24 : decode cX11_strokesOf 24 = .ok (.iload_n 3, 1) := by decide +kernel
theorem dX11_strokesOf_25 : decode cX11_strokesOf 25 = .ok (.imul, 1) := by decide +kernel
theorem dX11_strokesOf_26 : decode cX11_strokesOf 26 = .ok (.iaload, 1) := by decide +kernel
theorem dX11_strokesOf_27 : decode cX11_strokesOf 27 = .ok (.iaload, 1) := by decide +kernel
theorem dX11_strokesOf_28 : decode cX11_strokesOf 28 = .ok (.iload_n 1, 1) := by decide +kernel
theorem dX11_strokesOf_29 : decode cX11_strokesOf 29 = .ok (.if_icmp .ne 7, 3) := by decide +kernel
theorem dX11_strokesOf_32 : decode cX11_strokesOf 32 = .ok (.iconst 1, 1) := by decide +kernel
theorem dX11_strokesOf_33 : decode cX11_strokesOf 33 = .ok (.goto 4, 3) := by decide +kernel
theorem dX11_strokesOf_36 : decode cX11_strokesOf 36 = .ok (.iconst 0, 1) := by decide +kernel
theorem dX11_strokesOf_37 : decode cX11_strokesOf 37 = .ok (.iadd, 1) := by decide +kernel
theorem dX11_strokesOf_38 : decode cX11_strokesOf 38 = .ok (.istore_n 2, 1) := by decide +kernel
theorem dX11_strokesOf_39 : decode cX11_strokesOf 39 = .ok (.iinc 3 1, 3) := by decide +kernel
theorem dX11_strokesOf_42 : decode cX11_strokesOf 42 = .ok (.goto (-38), 3) := by decide +kernel
theorem dX11_strokesOf_45 : decode cX11_strokesOf 45 = .ok (.iload_n 2, 1) := by decide +kernel
theorem dX11_strokesOf_46 : decode cX11_strokesOf 46 = .ok (.ireturn, 1) := by decide +kernel
theorem dX11_meetingsOf_0 : decode cX11_meetingsOf 0 = .ok (.iconst 0, 1) := by decide +kernel
theorem dX11_meetingsOf_1 : decode cX11_meetingsOf 1 = .ok (.istore_n 3, 1) := by decide +kernel
theorem dX11_meetingsOf_2 : decode cX11_meetingsOf 2 = .ok (.iconst (-1), 1) := by decide +kernel
theorem dX11_meetingsOf_3 : decode cX11_meetingsOf 3 = .ok (.istore 4, 2) := by decide +kernel
theorem dX11_meetingsOf_5 : decode cX11_meetingsOf 5 = .ok (.iconst 0, 1) := by decide +kernel
theorem dX11_meetingsOf_6 : decode cX11_meetingsOf 6 = .ok (.istore 5, 2) := by decide +kernel
theorem dX11_meetingsOf_8 : decode cX11_meetingsOf 8 = .ok (.iload 5, 2) := by decide +kernel
theorem dX11_meetingsOf_10 : decode cX11_meetingsOf 10 = .ok (.aload_n 0, 1) := by decide +kernel
theorem dX11_meetingsOf_11 : decode cX11_meetingsOf 11 = .ok (.getfield 249, 3) := by decide +kernel
theorem dX11_meetingsOf_14 : decode cX11_meetingsOf 14 = .ok (.if_icmp .ge 73, 3) := by decide +kernel
theorem dX11_meetingsOf_17 : decode cX11_meetingsOf 17 = .ok (.aload_n 0, 1) := by decide +kernel
theorem dX11_meetingsOf_18 : decode cX11_meetingsOf 18 = .ok (.getfield 38, 3) := by decide +kernel
theorem dX11_meetingsOf_21 : decode cX11_meetingsOf 21 = .ok (.iload 5, 2) := by decide +kernel
theorem dX11_meetingsOf_23 : decode cX11_meetingsOf 23 = .ok (.iaload, 1) := by decide +kernel
theorem dX11_meetingsOf_24 : decode cX11_meetingsOf 24 = .ok (.iload_n 1, 1) := by decide +kernel
theorem dX11_meetingsOf_25 : decode cX11_meetingsOf 25 = .ok (.if_icmp .ne 7, 3) := by decide +kernel
theorem dX11_meetingsOf_28 : decode cX11_meetingsOf 28 = .ok (.iconst 1, 1) := by decide +kernel
theorem dX11_meetingsOf_29 : decode cX11_meetingsOf 29 = .ok (.goto 4, 3) := by decide +kernel
theorem dX11_meetingsOf_32 : decode cX11_meetingsOf 32 = .ok (.iconst 0, 1) := by decide +kernel
theorem dX11_meetingsOf_33 : decode cX11_meetingsOf 33 = .ok (.istore 6, 2) := by decide +kernel
theorem dX11_meetingsOf_35 : decode cX11_meetingsOf 35 = .ok (.iload_n 3, 1) := by decide +kernel
theorem dX11_meetingsOf_36 : decode cX11_meetingsOf 36 = .ok (.iload 6, 2) := by decide +kernel
theorem dX11_meetingsOf_38 : decode cX11_meetingsOf 38 = .ok (.ifCond .eq 20, 3) := by decide +kernel
theorem dX11_meetingsOf_41 : decode cX11_meetingsOf 41 = .ok (.iload_n 2, 1) := by decide +kernel
theorem dX11_meetingsOf_42 : decode cX11_meetingsOf 42 = .ok (.ifCond .eq 12, 3) := by decide +kernel
theorem dX11_meetingsOf_45 : decode cX11_meetingsOf 45 = .ok (.aload_n 0, 1) := by decide +kernel
theorem dX11_meetingsOf_46 : decode cX11_meetingsOf 46 = .ok (.iload 5, 2) := by decide +kernel
theorem dX11_meetingsOf_48 : decode cX11_meetingsOf 48 = .ok (.invokevirtual 264, 3) := by decide +kernel
theorem dX11_meetingsOf_51 : decode cX11_meetingsOf 51 = .ok (.ifCond .eq 7, 3) := by decide +kernel
theorem dX11_meetingsOf_54 : decode cX11_meetingsOf 54 = .ok (.iconst 1, 1) := by decide +kernel
theorem dX11_meetingsOf_55 : decode cX11_meetingsOf 55 = .ok (.goto 4, 3) := by decide +kernel
theorem dX11_meetingsOf_58 : decode cX11_meetingsOf 58 = .ok (.iconst 0, 1) := by decide +kernel
theorem dX11_meetingsOf_59 : decode cX11_meetingsOf 59 = .ok (.iadd, 1) := by decide +kernel
theorem dX11_meetingsOf_60 : decode cX11_meetingsOf 60 = .ok (.istore_n 3, 1) := by decide +kernel
theorem dX11_meetingsOf_61 : decode cX11_meetingsOf 61 = .ok (.iload 6, 2) := by decide +kernel
theorem dX11_meetingsOf_63 : decode cX11_meetingsOf 63 = .ok (.ifCond .eq 14, 3) := by decide +kernel
theorem dX11_meetingsOf_66 : decode cX11_meetingsOf 66 = .ok (.iload 4, 2) := by decide +kernel
theorem dX11_meetingsOf_68 : decode cX11_meetingsOf 68 = .ok (.iconst (-1), 1) := by decide +kernel
theorem dX11_meetingsOf_69 : decode cX11_meetingsOf 69 = .ok (.if_icmp .ne 8, 3) := by decide +kernel
theorem dX11_meetingsOf_72 : decode cX11_meetingsOf 72 = .ok (.iload 5, 2) := by decide +kernel
theorem dX11_meetingsOf_74 : decode cX11_meetingsOf 74 = .ok (.goto 5, 3) := by decide +kernel
theorem dX11_meetingsOf_77 : decode cX11_meetingsOf 77 = .ok (.iload 4, 2) := by decide +kernel
theorem dX11_meetingsOf_79 : decode cX11_meetingsOf 79 = .ok (.istore 4, 2) := by decide +kernel
theorem dX11_meetingsOf_81 : decode cX11_meetingsOf 81 = .ok (.iinc 5 1, 3) := by decide +kernel
theorem dX11_meetingsOf_84 : decode cX11_meetingsOf 84 = .ok (.goto (-76), 3) := by decide +kernel
theorem dX11_meetingsOf_87 : decode cX11_meetingsOf 87 = .ok (.iload_n 2, 1) := by decide +kernel
theorem dX11_meetingsOf_88 : decode cX11_meetingsOf 88 = .ok (.iconst 2, 1) := by decide +kernel
theorem dX11_meetingsOf_89 : decode cX11_meetingsOf 89 = .ok (.if_icmp .ne 8, 3) := by decide +kernel
theorem dX11_meetingsOf_92 : decode cX11_meetingsOf 92 = .ok (.iload 4, 2) := by decide +kernel
theorem dX11_meetingsOf_94 : decode cX11_meetingsOf 94 = .ok (.goto 4, 3) := by decide +kernel
theorem dX11_meetingsOf_97 : decode cX11_meetingsOf 97 = .ok (.iload_n 3, 1) := by decide +kernel
theorem dX11_meetingsOf_98 : decode cX11_meetingsOf 98 = .ok (.ireturn, 1) := by decide +kernel
theorem dX11_trailsOf_0 : decode cX11_trailsOf 0 = .ok (.iconst 0, 1) := by decide +kernel
theorem dX11_trailsOf_1 : decode cX11_trailsOf 1 = .ok (.istore_n 2, 1) := by decide +kernel
theorem dX11_trailsOf_2 : decode cX11_trailsOf 2 = .ok (.iconst 0, 1) := by decide +kernel
theorem dX11_trailsOf_3 : decode cX11_trailsOf 3 = .ok (.istore_n 3, 1) := by decide +kernel
theorem dX11_trailsOf_4 : decode cX11_trailsOf 4 = .ok (.iload_n 3, 1) := by decide +kernel
theorem dX11_trailsOf_5 : decode cX11_trailsOf 5 = .ok (.aload_n 0, 1) := by decide +kernel
theorem dX11_trailsOf_6 : decode cX11_trailsOf 6 = .ok (.getfield 296, 3) := by decide +kernel
theorem dX11_trailsOf_9 : decode cX11_trailsOf 9 = .ok (.if_icmp .ge 27, 3) := by decide +kernel
theorem dX11_trailsOf_12 : decode cX11_trailsOf 12 = .ok (.iload_n 2, 1) := by decide +kernel
theorem dX11_trailsOf_13 : decode cX11_trailsOf 13 = .ok (.aload_n 0, 1) := by decide +kernel
theorem dX11_trailsOf_14 : decode cX11_trailsOf 14 = .ok (.getfield 84, 3) := by decide +kernel
theorem dX11_trailsOf_17 : decode cX11_trailsOf 17 = .ok (.iload_n 3, 1) := by decide +kernel
theorem dX11_trailsOf_18 : decode cX11_trailsOf 18 = .ok (.iaload, 1) := by decide +kernel
theorem dX11_trailsOf_19 : decode cX11_trailsOf 19 = .ok (.iload_n 1, 1) := by decide +kernel
theorem dX11_trailsOf_20 : decode cX11_trailsOf 20 = .ok (.if_icmp .ne 7, 3) := by decide +kernel
theorem dX11_trailsOf_23 : decode cX11_trailsOf 23 = .ok (.iconst 1, 1) := by decide +kernel
theorem dX11_trailsOf_24 : decode cX11_trailsOf 24 = .ok (.goto 4, 3) := by decide +kernel
theorem dX11_trailsOf_27 : decode cX11_trailsOf 27 = .ok (.iconst 0, 1) := by decide +kernel
theorem dX11_trailsOf_28 : decode cX11_trailsOf 28 = .ok (.iadd, 1) := by decide +kernel
theorem dX11_trailsOf_29 : decode cX11_trailsOf 29 = .ok (.istore_n 2, 1) := by decide +kernel
theorem dX11_trailsOf_30 : decode cX11_trailsOf 30 = .ok (.iinc 3 1, 3) := by decide +kernel
theorem dX11_trailsOf_33 : decode cX11_trailsOf 33 = .ok (.goto (-29), 3) := by decide +kernel
theorem dX11_trailsOf_36 : decode cX11_trailsOf 36 = .ok (.iload_n 2, 1) := by decide +kernel
theorem dX11_trailsOf_37 : decode cX11_trailsOf 37 = .ok (.ireturn, 1) := by decide +kernel
theorem dX11_pairsOf_0 : decode cX11_pairsOf 0 = .ok (.iconst 0, 1) := by decide +kernel
theorem dX11_pairsOf_1 : decode cX11_pairsOf 1 = .ok (.istore_n 2, 1) := by decide +kernel
theorem dX11_pairsOf_2 : decode cX11_pairsOf 2 = .ok (.iconst 0, 1) := by decide +kernel
theorem dX11_pairsOf_3 : decode cX11_pairsOf 3 = .ok (.istore_n 3, 1) := by decide +kernel
theorem dX11_pairsOf_4 : decode cX11_pairsOf 4 = .ok (.iload_n 3, 1) := by decide +kernel
theorem dX11_pairsOf_5 : decode cX11_pairsOf 5 = .ok (.aload_n 0, 1) := by decide +kernel
theorem dX11_pairsOf_6 : decode cX11_pairsOf 6 = .ok (.getfield 258, 3) := by decide +kernel
theorem dX11_pairsOf_9 : decode cX11_pairsOf 9 = .ok (.if_icmp .ge 31, 3) := by decide +kernel
theorem dX11_pairsOf_12 : decode cX11_pairsOf 12 = .ok (.iload_n 2, 1) := by decide +kernel
theorem dX11_pairsOf_13 : decode cX11_pairsOf 13 = .ok (.aload_n 0, 1) := by decide +kernel
theorem dX11_pairsOf_14 : decode cX11_pairsOf 14 = .ok (.getfield 47, 3) := by decide +kernel
theorem dX11_pairsOf_17 : decode cX11_pairsOf 17 = .ok (.iload_n 3, 1) := by decide +kernel
theorem dX11_pairsOf_18 : decode cX11_pairsOf 18 = .ok (.iaload, 1) := by decide +kernel
theorem dX11_pairsOf_19 : decode cX11_pairsOf 19 = .ok (.iload_n 1, 1) := by decide +kernel
theorem dX11_pairsOf_20 : decode cX11_pairsOf 20 = .ok (.if_icmp .ne 11, 3) := by decide +kernel
theorem dX11_pairsOf_23 : decode cX11_pairsOf 23 = .ok (.aload_n 0, 1) := by decide +kernel
theorem dX11_pairsOf_24 : decode cX11_pairsOf 24 = .ok (.iload_n 3, 1) := by decide +kernel
theorem dX11_pairsOf_25 : decode cX11_pairsOf 25 = .ok (.invokevirtual 274, 3) := by decide +kernel
theorem dX11_pairsOf_28 : decode cX11_pairsOf 28 = .ok (.goto 4, 3) := by decide +kernel
theorem dX11_pairsOf_31 : decode cX11_pairsOf 31 = .ok (.iconst 0, 1) := by decide +kernel
theorem dX11_pairsOf_32 : decode cX11_pairsOf 32 = .ok (.iadd, 1) := by decide +kernel
theorem dX11_pairsOf_33 : decode cX11_pairsOf 33 = .ok (.istore_n 2, 1) := by decide +kernel
theorem dX11_pairsOf_34 : decode cX11_pairsOf 34 = .ok (.iinc 3 1, 3) := by decide +kernel
theorem dX11_pairsOf_37 : decode cX11_pairsOf 37 = .ok (.goto (-33), 3) := by decide +kernel
theorem dX11_pairsOf_40 : decode cX11_pairsOf 40 = .ok (.iload_n 2, 1) := by decide +kernel
theorem dX11_pairsOf_41 : decode cX11_pairsOf 41 = .ok (.ireturn, 1) := by decide +kernel
theorem dX11_part_0 : decode cX11_part 0 = .ok (.aload_n 0, 1) := by decide +kernel
theorem dX11_part_1 : decode cX11_part 1 = .ok (.iload_n 2, 1) := by decide +kernel
theorem dX11_part_2 : decode cX11_part 2 = .ok (.iconst 0, 1) := by decide +kernel
theorem dX11_part_3 : decode cX11_part 3 = .ok (.iconst 5, 1) := by decide +kernel
theorem dX11_part_4 : decode cX11_part 4 = .ok (.invokestatic 128, 3) := by decide +kernel
theorem dX11_part_7 : decode cX11_part 7 = .ok (.invokevirtual 318, 3) := by decide +kernel
theorem dX11_part_10 : decode cX11_part 10 = .ok (.ifCond .ne 5, 3) := by decide +kernel
theorem dX11_part_13 : decode cX11_part 13 = .ok (.iconst (-1), 1) := by decide +kernel
theorem dX11_part_14 : decode cX11_part 14 = .ok (.ireturn, 1) := by decide +kernel
theorem dX11_part_15 : decode cX11_part 15 = .ok (.iload_n 1, 1) := by decide +kernel
theorem dX11_part_16 : decode cX11_part 16 = .ok (.iconst 0, 1) := by decide +kernel
theorem dX11_part_17 : decode cX11_part 17 = .ok (.aload_n 0, 1) := by decide +kernel
theorem dX11_part_18 : decode cX11_part 18 = .ok (.getfield 255, 3) := by decide +kernel
theorem dX11_part_21 : decode cX11_part 21 = .ok (.iconst 1, 1) := by decide +kernel
theorem dX11_part_22 : decode cX11_part 22 = .ok (.isub, 1) := by decide +kernel
theorem dX11_part_23 : decode cX11_part 23 = .ok (.invokestatic 128, 3) := by decide +kernel
theorem dX11_part_26 : decode cX11_part 26 = .ok (.ifCond .ne 9, 3) := by decide +kernel
theorem dX11_part_29 : decode cX11_part 29 = .ok (.aload_n 0, 1) := by decide +kernel
theorem dX11_part_30 : decode cX11_part 30 = .ok (.iconst 1, 1) := by decide +kernel
theorem dX11_part_31 : decode cX11_part 31 = .ok (.invokevirtual 216, 3) := by decide +kernel
theorem dX11_part_34 : decode cX11_part 34 = .ok (.ireturn, 1) := by decide +kernel
theorem dX11_part_35 : decode cX11_part 35 = .ok (.iload_n 2, 1) := by decide +kernel
theorem dX11_part_36 : decode cX11_part 36 = .ok (.tableswitch 69 0 4 #[36, 43, 49, 56, 62], 36) := by decide +kernel
theorem dX11_part_72 : decode cX11_part 72 = .ok (.aload_n 0, 1) := by decide +kernel
theorem dX11_part_73 : decode cX11_part 73 = .ok (.iload_n 1, 1) := by decide +kernel
theorem dX11_part_74 : decode cX11_part 74 = .ok (.iconst 0, 1) := by decide +kernel
theorem dX11_part_75 : decode cX11_part 75 = .ok (.invokevirtual 325, 3) := by decide +kernel
theorem dX11_part_78 : decode cX11_part 78 = .ok (.ireturn, 1) := by decide +kernel
theorem dX11_part_79 : decode cX11_part 79 = .ok (.aload_n 0, 1) := by decide +kernel
theorem dX11_part_80 : decode cX11_part 80 = .ok (.iload_n 1, 1) := by decide +kernel
theorem dX11_part_81 : decode cX11_part 81 = .ok (.invokevirtual 328, 3) := by decide +kernel
theorem dX11_part_84 : decode cX11_part 84 = .ok (.ireturn, 1) := by decide +kernel
theorem dX11_part_85 : decode cX11_part 85 = .ok (.aload_n 0, 1) := by decide +kernel
theorem dX11_part_86 : decode cX11_part 86 = .ok (.iload_n 1, 1) := by decide +kernel
theorem dX11_part_87 : decode cX11_part 87 = .ok (.iconst 1, 1) := by decide +kernel
theorem dX11_part_88 : decode cX11_part 88 = .ok (.invokevirtual 325, 3) := by decide +kernel
theorem dX11_part_91 : decode cX11_part 91 = .ok (.ireturn, 1) := by decide +kernel
theorem dX11_part_92 : decode cX11_part 92 = .ok (.aload_n 0, 1) := by decide +kernel
theorem dX11_part_93 : decode cX11_part 93 = .ok (.iload_n 1, 1) := by decide +kernel
theorem dX11_part_94 : decode cX11_part 94 = .ok (.invokevirtual 331, 3) := by decide +kernel
theorem dX11_part_97 : decode cX11_part 97 = .ok (.ireturn, 1) := by decide +kernel
theorem dX11_part_98 : decode cX11_part 98 = .ok (.aload_n 0, 1) := by decide +kernel
theorem dX11_part_99 : decode cX11_part 99 = .ok (.iload_n 1, 1) := by decide +kernel
theorem dX11_part_100 : decode cX11_part 100 = .ok (.iconst 2, 1) := by decide +kernel
theorem dX11_part_101 : decode cX11_part 101 = .ok (.invokevirtual 325, 3) := by decide +kernel
theorem dX11_part_104 : decode cX11_part 104 = .ok (.ireturn, 1) := by decide +kernel
theorem dX11_part_105 : decode cX11_part 105 = .ok (.aload_n 0, 1) := by decide +kernel
theorem dX11_part_106 : decode cX11_part 106 = .ok (.iload_n 1, 1) := by decide +kernel
theorem dX11_part_107 : decode cX11_part 107 = .ok (.invokevirtual 334, 3) := by decide +kernel
theorem dX11_part_110 : decode cX11_part 110 = .ok (.ireturn, 1) := by decide +kernel
theorem dX11_pair_0 : decode cX11_pair 0 = .ok (.aload_n 0, 1) := by decide +kernel
theorem dX11_pair_1 : decode cX11_pair 1 = .ok (.iload_n 2, 1) := by decide +kernel
theorem dX11_pair_2 : decode cX11_pair 2 = .ok (.iconst 0, 1) := by decide +kernel
theorem dX11_pair_3 : decode cX11_pair 3 = .ok (.iconst 3, 1) := by decide +kernel
theorem dX11_pair_4 : decode cX11_pair 4 = .ok (.invokestatic 128, 3) := by decide +kernel
theorem dX11_pair_7 : decode cX11_pair 7 = .ok (.invokevirtual 318, 3) := by decide +kernel
theorem dX11_pair_10 : decode cX11_pair 10 = .ok (.ifCond .ne 5, 3) := by decide +kernel
theorem dX11_pair_13 : decode cX11_pair 13 = .ok (.iconst (-1), 1) := by decide +kernel
theorem dX11_pair_14 : decode cX11_pair 14 = .ok (.ireturn, 1) := by decide +kernel
theorem dX11_pair_15 : decode cX11_pair 15 = .ok (.iload_n 1, 1) := by decide +kernel
theorem dX11_pair_16 : decode cX11_pair 16 = .ok (.iconst 0, 1) := by decide +kernel
theorem dX11_pair_17 : decode cX11_pair 17 = .ok (.aload_n 0, 1) := by decide +kernel
theorem dX11_pair_18 : decode cX11_pair 18 = .ok (.getfield 258, 3) := by decide +kernel
theorem dX11_pair_21 : decode cX11_pair 21 = .ok (.iconst 1, 1) := by decide +kernel
theorem dX11_pair_22 : decode cX11_pair 22 = .ok (.isub, 1) := by decide +kernel
theorem dX11_pair_23 : decode cX11_pair 23 = .ok (.invokestatic 128, 3) := by decide +kernel
theorem dX11_pair_26 : decode cX11_pair 26 = .ok (.ifCond .ne 9, 3) := by decide +kernel
theorem dX11_pair_29 : decode cX11_pair 29 = .ok (.aload_n 0, 1) := by decide +kernel
theorem dX11_pair_30 : decode cX11_pair 30 = .ok (.iconst 1, 1) := by decide +kernel
theorem dX11_pair_31 : decode cX11_pair 31 = .ok (.invokevirtual 216, 3) := by decide +kernel
theorem dX11_pair_34 : decode cX11_pair 34 = .ok (.ireturn, 1) := by decide +kernel
theorem dX11_pair_35 : decode cX11_pair 35 = .ok (.iload_n 2, 1) := by decide +kernel
theorem dX11_pair_36 : decode cX11_pair 36 = .ok (.tableswitch 48 0 2 #[28, 35, 42], 28) := by decide +kernel
theorem dX11_pair_64 : decode cX11_pair 64 = .ok (.aload_n 0, 1) := by decide +kernel
theorem dX11_pair_65 : decode cX11_pair 65 = .ok (.getfield 41, 3) := by decide +kernel
theorem dX11_pair_68 : decode cX11_pair 68 = .ok (.iload_n 1, 1) := by decide +kernel
theorem dX11_pair_69 : decode cX11_pair 69 = .ok (.iaload, 1) := by decide +kernel
theorem dX11_pair_70 : decode cX11_pair 70 = .ok (.ireturn, 1) := by decide +kernel
theorem dX11_pair_71 : decode cX11_pair 71 = .ok (.aload_n 0, 1) := by decide +kernel
theorem dX11_pair_72 : decode cX11_pair 72 = .ok (.getfield 44, 3) := by decide +kernel
theorem dX11_pair_75 : decode cX11_pair 75 = .ok (.iload_n 1, 1) := by decide +kernel
theorem dX11_pair_76 : decode cX11_pair 76 = .ok (.iaload, 1) := by decide +kernel
theorem dX11_pair_77 : decode cX11_pair 77 = .ok (.ireturn, 1) := by decide +kernel
theorem dX11_pair_78 : decode cX11_pair 78 = .ok (.aload_n 0, 1) := by decide +kernel
theorem dX11_pair_79 : decode cX11_pair 79 = .ok (.iload_n 1, 1) := by decide +kernel
theorem dX11_pair_80 : decode cX11_pair 80 = .ok (.invokevirtual 274, 3) := by decide +kernel
theorem dX11_pair_83 : decode cX11_pair 83 = .ok (.ireturn, 1) := by decide +kernel
theorem dX11_pair_84 : decode cX11_pair 84 = .ok (.aload_n 0, 1) := by decide +kernel
theorem dX11_pair_85 : decode cX11_pair 85 = .ok (.getfield 50, 3) := by decide +kernel
theorem dX11_pair_88 : decode cX11_pair 88 = .ok (.aload_n 0, 1) := by decide +kernel
theorem dX11_pair_89 : decode cX11_pair 89 = .ok (.getfield 47, 3) := by decide +kernel
theorem dX11_pair_92 : decode cX11_pair 92 = .ok (.iload_n 1, 1) := by decide +kernel
theorem dX11_pair_93 : decode cX11_pair 93 = .ok (.iaload, 1) := by decide +kernel
theorem dX11_pair_94 : decode cX11_pair 94 = .ok (.iaload, 1) := by decide +kernel
theorem dX11_pair_95 : decode cX11_pair 95 = .ok (.iload_n 1, 1) := by decide +kernel
theorem dX11_pair_96 : decode cX11_pair 96 = .ok (.if_icmp .ne 7, 3) := by decide +kernel
theorem dX11_pair_99 : decode cX11_pair 99 = .ok (.iconst 1, 1) := by decide +kernel
theorem dX11_pair_100 : decode cX11_pair 100 = .ok (.goto 4, 3) := by decide +kernel
theorem dX11_pair_103 : decode cX11_pair 103 = .ok (.iconst 0, 1) := by decide +kernel
theorem dX11_pair_104 : decode cX11_pair 104 = .ok (.ireturn, 1) := by decide +kernel
theorem dX11_walk_0 : decode cX11_walk 0 = .ok (.aload_n 0, 1) := by decide +kernel
theorem dX11_walk_1 : decode cX11_walk 1 = .ok (.iload_n 2, 1) := by decide +kernel
theorem dX11_walk_2 : decode cX11_walk 2 = .ok (.ifCond .lt 7, 3) := by decide +kernel
theorem dX11_walk_5 : decode cX11_walk 5 = .ok (.iconst 1, 1) := by decide +kernel
theorem dX11_walk_6 : decode cX11_walk 6 = .ok (.goto 4, 3) := by decide +kernel
theorem dX11_walk_9 : decode cX11_walk 9 = .ok (.iconst 0, 1) := by decide +kernel
theorem dX11_walk_10 : decode cX11_walk 10 = .ok (.invokevirtual 318, 3) := by decide +kernel
theorem dX11_walk_13 : decode cX11_walk 13 = .ok (.ifCond .ne 5, 3) := by decide +kernel
theorem dX11_walk_16 : decode cX11_walk 16 = .ok (.iconst (-1), 1) := by decide +kernel
theorem dX11_walk_17 : decode cX11_walk 17 = .ok (.ireturn, 1) := by decide +kernel
theorem dX11_walk_18 : decode cX11_walk 18 = .ok (.iload_n 1, 1) := by decide +kernel
theorem dX11_walk_19 : decode cX11_walk 19 = .ok (.iconst 0, 1) := by decide +kernel
theorem dX11_walk_20 : decode cX11_walk 20 = .ok (.aload_n 0, 1) := by decide +kernel
theorem dX11_walk_21 : decode cX11_walk 21 = .ok (.getfield 255, 3) := by decide +kernel
theorem dX11_walk_24 : decode cX11_walk 24 = .ok (.iconst 1, 1) := by decide +kernel
theorem dX11_walk_25 : decode cX11_walk 25 = .ok (.isub, 1) := by decide +kernel
theorem dX11_walk_26 : decode cX11_walk 26 = .ok (.invokestatic 128, 3) := by decide +kernel
theorem dX11_walk_29 : decode cX11_walk 29 = .ok (.ifCond .ne 9, 3) := by decide +kernel
theorem dX11_walk_32 : decode cX11_walk 32 = .ok (.aload_n 0, 1) := by decide +kernel
theorem dX11_walk_33 : decode cX11_walk 33 = .ok (.iconst 1, 1) := by decide +kernel
theorem dX11_walk_34 : decode cX11_walk 34 = .ok (.invokevirtual 216, 3) := by decide +kernel
theorem dX11_walk_37 : decode cX11_walk 37 = .ok (.ireturn, 1) := by decide +kernel
theorem dX11_walk_38 : decode cX11_walk 38 = .ok (.iload_n 2, 1) := by decide +kernel
theorem dX11_walk_39 : decode cX11_walk 39 = .ok (.aload_n 0, 1) := by decide +kernel
theorem dX11_walk_40 : decode cX11_walk 40 = .ok (.getfield 78, 3) := by decide +kernel
theorem dX11_walk_43 : decode cX11_walk 43 = .ok (.iload_n 1, 1) := by decide +kernel
theorem dX11_walk_44 : decode cX11_walk 44 = .ok (.iconst 1, 1) := by decide +kernel
theorem dX11_walk_45 : decode cX11_walk 45 = .ok (.iadd, 1) := by decide +kernel
theorem dX11_walk_46 : decode cX11_walk 46 = .ok (.iaload, 1) := by decide +kernel
theorem dX11_walk_47 : decode cX11_walk 47 = .ok (.aload_n 0, 1) := by decide +kernel
theorem dX11_walk_48 : decode cX11_walk 48 = .ok (.getfield 78, 3) := by decide +kernel
theorem dX11_walk_51 : decode cX11_walk 51 = .ok (.iload_n 1, 1) := by decide +kernel
theorem dX11_walk_52 : decode cX11_walk 52 = .ok (.iaload, 1) := by decide +kernel
theorem dX11_walk_53 : decode cX11_walk 53 = .ok (.isub, 1) := by decide +kernel
theorem dX11_walk_54 : decode cX11_walk 54 = .ok (.if_icmp .ge 19, 3) := by decide +kernel
theorem dX11_walk_57 : decode cX11_walk 57 = .ok (.aload_n 0, 1) := by decide +kernel
theorem dX11_walk_58 : decode cX11_walk 58 = .ok (.getfield 81, 3) := by decide +kernel
theorem dX11_walk_61 : decode cX11_walk 61 = .ok (.aload_n 0, 1) := by decide +kernel
theorem dX11_walk_62 : decode cX11_walk 62 = .ok (.getfield 78, 3) := by decide +kernel
theorem dX11_walk_65 : decode cX11_walk 65 = .ok (.iload_n 1, 1) := by decide +kernel
theorem dX11_walk_66 : decode cX11_walk 66 = .ok (.iaload, 1) := by decide +kernel
theorem dX11_walk_67 : decode cX11_walk 67 = .ok (.iload_n 2, 1) := by decide +kernel
theorem dX11_walk_68 : decode cX11_walk 68 = .ok (.iadd, 1) := by decide +kernel
theorem dX11_walk_69 : decode cX11_walk 69 = .ok (.iaload, 1) := by decide +kernel
theorem dX11_walk_70 : decode cX11_walk 70 = .ok (.goto 5, 3) := by decide +kernel
theorem dX11_walk_73 : decode cX11_walk 73 = .ok (.bipush (-2), 2) := by decide +kernel
theorem dX11_walk_75 : decode cX11_walk 75 = .ok (.ireturn, 1) := by decide +kernel
theorem dX11_planned_0 : decode cX11_planned 0 = .ok (.aload_n 0, 1) := by decide +kernel
theorem dX11_planned_1 : decode cX11_planned 1 = .ok (.getfield 17, 3) := by decide +kernel
theorem dX11_planned_4 : decode cX11_planned 4 = .ok (.bipush 104, 2) := by decide +kernel
theorem dX11_planned_6 : decode cX11_planned 6 = .ok (.iload_n 1, 1) := by decide +kernel
theorem dX11_planned_7 : decode cX11_planned 7 = .ok (.iadd, 1) := by decide +kernel
theorem dX11_planned_8 : decode cX11_planned 8 = .ok (.iaload, 1) := by decide +kernel
theorem dX11_planned_9 : decode cX11_planned 9 = .ok (.ireturn, 1) := by decide +kernel
theorem dX11_isTurned_0 : decode cX11_isTurned 0 = .ok (.aload_n 0, 1) := by decide +kernel
theorem dX11_isTurned_1 : decode cX11_isTurned 1 = .ok (.getfield 17, 3) := by decide +kernel
theorem dX11_isTurned_4 : decode cX11_isTurned 4 = .ok (.sipush 128, 3) := by decide +kernel
theorem dX11_isTurned_7 : decode cX11_isTurned 7 = .ok (.iload_n 1, 1) := by decide +kernel
theorem dX11_isTurned_8 : decode cX11_isTurned 8 = .ok (.iadd, 1) := by decide +kernel
theorem dX11_isTurned_9 : decode cX11_isTurned 9 = .ok (.iaload, 1) := by decide +kernel
theorem dX11_isTurned_10 : decode cX11_isTurned 10 = .ok (.iconst 1, 1) := by decide +kernel
theorem dX11_isTurned_11 : decode cX11_isTurned 11 = .ok (.if_icmp .ne 7, 3) := by decide +kernel
theorem dX11_isTurned_14 : decode cX11_isTurned 14 = .ok (.iconst 1, 1) := by decide +kernel
theorem dX11_isTurned_15 : decode cX11_isTurned 15 = .ok (.goto 4, 3) := by decide +kernel
theorem dX11_isTurned_18 : decode cX11_isTurned 18 = .ok (.iconst 0, 1) := by decide +kernel
theorem dX11_isTurned_19 : decode cX11_isTurned 19 = .ok (.ireturn, 1) := by decide +kernel
theorem dX11_startAt_0 : decode cX11_startAt 0 = .ok (.aload_n 0, 1) := by decide +kernel
theorem dX11_startAt_1 : decode cX11_startAt 1 = .ok (.iload_n 1, 1) := by decide +kernel
theorem dX11_startAt_2 : decode cX11_startAt 2 = .ok (.invokevirtual 337, 3) := by decide +kernel
theorem dX11_startAt_5 : decode cX11_startAt 5 = .ok (.ifCond .eq 16, 3) := by decide +kernel
theorem dX11_startAt_8 : decode cX11_startAt 8 = .ok (.aload_n 0, 1) := by decide +kernel
theorem dX11_startAt_9 : decode cX11_startAt 9 = .ok (.getfield 96, 3) := by decide +kernel
theorem dX11_startAt_12 : decode cX11_startAt 12 = .ok (.aload_n 0, 1) := by decide +kernel
theorem dX11_startAt_13 : decode cX11_startAt 13 = .ok (.iload_n 1, 1) := by decide +kernel
theorem dX11_startAt_14 : decode cX11_startAt 14 = .ok (.invokevirtual 340, 3) := by decide +kernel
theorem dX11_startAt_17 : decode cX11_startAt 17 = .ok (.iaload, 1) := by decide +kernel
theorem dX11_startAt_18 : decode cX11_startAt 18 = .ok (.goto 13, 3) := by decide +kernel
theorem dX11_startAt_21 : decode cX11_startAt 21 = .ok (.aload_n 0, 1) := by decide +kernel
theorem dX11_startAt_22 : decode cX11_startAt 22 = .ok (.getfield 93, 3) := by decide +kernel
theorem dX11_startAt_25 : decode cX11_startAt 25 = .ok (.aload_n 0, 1) := by decide +kernel
theorem dX11_startAt_26 : decode cX11_startAt 26 = .ok (.iload_n 1, 1) := by decide +kernel
theorem dX11_startAt_27 : decode cX11_startAt 27 = .ok (.invokevirtual 340, 3) := by decide +kernel
theorem dX11_startAt_30 : decode cX11_startAt 30 = .ok (.iaload, 1) := by decide +kernel
theorem dX11_startAt_31 : decode cX11_startAt 31 = .ok (.ireturn, 1) := by decide +kernel
theorem dX11_endAt_0 : decode cX11_endAt 0 = .ok (.aload_n 0, 1) := by decide +kernel
theorem dX11_endAt_1 : decode cX11_endAt 1 = .ok (.iload_n 1, 1) := by decide +kernel
theorem dX11_endAt_2 : decode cX11_endAt 2 = .ok (.invokevirtual 337, 3) := by decide +kernel
theorem dX11_endAt_5 : decode cX11_endAt 5 = .ok (.ifCond .eq 16, 3) := by decide +kernel
theorem dX11_endAt_8 : decode cX11_endAt 8 = .ok (.aload_n 0, 1) := by decide +kernel
theorem dX11_endAt_9 : decode cX11_endAt 9 = .ok (.getfield 93, 3) := by decide +kernel
theorem dX11_endAt_12 : decode cX11_endAt 12 = .ok (.aload_n 0, 1) := by decide +kernel
theorem dX11_endAt_13 : decode cX11_endAt 13 = .ok (.iload_n 1, 1) := by decide +kernel
theorem dX11_endAt_14 : decode cX11_endAt 14 = .ok (.invokevirtual 340, 3) := by decide +kernel
theorem dX11_endAt_17 : decode cX11_endAt 17 = .ok (.iaload, 1) := by decide +kernel
theorem dX11_endAt_18 : decode cX11_endAt 18 = .ok (.goto 13, 3) := by decide +kernel
theorem dX11_endAt_21 : decode cX11_endAt 21 = .ok (.aload_n 0, 1) := by decide +kernel
theorem dX11_endAt_22 : decode cX11_endAt 22 = .ok (.getfield 96, 3) := by decide +kernel
theorem dX11_endAt_25 : decode cX11_endAt 25 = .ok (.aload_n 0, 1) := by decide +kernel
theorem dX11_endAt_26 : decode cX11_endAt 26 = .ok (.iload_n 1, 1) := by decide +kernel
theorem dX11_endAt_27 : decode cX11_endAt 27 = .ok (.invokevirtual 340, 3) := by decide +kernel
theorem dX11_endAt_30 : decode cX11_endAt 30 = .ok (.iaload, 1) := by decide +kernel
theorem dX11_endAt_31 : decode cX11_endAt 31 = .ok (.ireturn, 1) := by decide +kernel
theorem dX11_fromHome_0 : decode cX11_fromHome 0 = .ok (.aload_n 0, 1) := by decide +kernel
theorem dX11_fromHome_1 : decode cX11_fromHome 1 = .ok (.aload_n 0, 1) := by decide +kernel
theorem dX11_fromHome_2 : decode cX11_fromHome 2 = .ok (.getfield 32, 3) := by decide +kernel
theorem dX11_fromHome_5 : decode cX11_fromHome 5 = .ok (.iload_n 1, 1) := by decide +kernel
theorem dX11_fromHome_6 : decode cX11_fromHome 6 = .ok (.iaload, 1) := by decide +kernel
theorem dX11_fromHome_7 : decode cX11_fromHome 7 = .ok (.invokevirtual 232, 3) := by decide +kernel
theorem dX11_fromHome_10 : decode cX11_fromHome 10 = .ok (.aload_n 0, 1) := by decide +kernel
theorem dX11_fromHome_11 : decode cX11_fromHome 11 = .ok (.getfield 17, 3) := by decide +kernel
theorem dX11_fromHome_14 : decode cX11_fromHome 14 = .ok (.iconst 3, 1) := by decide +kernel
theorem dX11_fromHome_15 : decode cX11_fromHome 15 = .ok (.iaload, 1) := by decide +kernel
theorem dX11_fromHome_16 : decode cX11_fromHome 16 = .ok (.isub, 1) := by decide +kernel
theorem dX11_fromHome_17 : decode cX11_fromHome 17 = .ok (.invokestatic 235, 3) := by decide +kernel
theorem dX11_fromHome_20 : decode cX11_fromHome 20 = .ok (.aload_n 0, 1) := by decide +kernel
theorem dX11_fromHome_21 : decode cX11_fromHome 21 = .ok (.aload_n 0, 1) := by decide +kernel
theorem dX11_fromHome_22 : decode cX11_fromHome 22 = .ok (.getfield 32, 3) := by decide +kernel
theorem dX11_fromHome_25 : decode cX11_fromHome 25 = .ok (.iload_n 1, 1) := by decide +kernel
theorem dX11_fromHome_26 : decode cX11_fromHome 26 = .ok (.iaload, 1) := by decide +kernel
theorem dX11_fromHome_27 : decode cX11_fromHome 27 = .ok (.invokevirtual 238, 3) := by decide +kernel
theorem dX11_fromHome_30 : decode cX11_fromHome 30 = .ok (.aload_n 0, 1) := by decide +kernel
theorem dX11_fromHome_31 : decode cX11_fromHome 31 = .ok (.getfield 17, 3) := by decide +kernel
theorem dX11_fromHome_34 : decode cX11_fromHome 34 = .ok (.iconst 4, 1) := by decide +kernel
theorem dX11_fromHome_35 : decode cX11_fromHome 35 = .ok (.iaload, 1) := by decide +kernel
theorem dX11_fromHome_36 : decode cX11_fromHome 36 = .ok (.isub, 1) := by decide +kernel
theorem dX11_fromHome_37 : decode cX11_fromHome 37 = .ok (.invokestatic 235, 3) := by decide +kernel
theorem dX11_fromHome_40 : decode cX11_fromHome 40 = .ok (.iadd, 1) := by decide +kernel
theorem dX11_fromHome_41 : decode cX11_fromHome 41 = .ok (.ireturn, 1) := by decide +kernel
theorem dX11_leap_0 : decode cX11_leap 0 = .ok (.aload_n 0, 1) := by decide +kernel
theorem dX11_leap_1 : decode cX11_leap 1 = .ok (.getfield 17, 3) := by decide +kernel
theorem dX11_leap_4 : decode cX11_leap 4 = .ok (.bipush 103, 2) := by decide +kernel
theorem dX11_leap_6 : decode cX11_leap 6 = .ok (.iaload, 1) := by decide +kernel
theorem dX11_leap_7 : decode cX11_leap 7 = .ok (.ifCond .ne 5, 3) := by decide +kernel
theorem dX11_leap_10 : decode cX11_leap 10 = .ok (.iconst 0, 1) := by decide +kernel
theorem dX11_leap_11 : decode cX11_leap 11 = .ok (.ireturn, 1) := by decide +kernel
theorem dX11_leap_12 : decode cX11_leap 12 = .ok (.iload_n 1, 1) := by decide +kernel
theorem dX11_leap_13 : decode cX11_leap 13 = .ok (.ifCond .ne 13, 3) := by decide +kernel
theorem dX11_leap_16 : decode cX11_leap 16 = .ok (.aload_n 0, 1) := by decide +kernel
theorem dX11_leap_17 : decode cX11_leap 17 = .ok (.aload_n 0, 1) := by decide +kernel
theorem dX11_leap_18 : decode cX11_leap 18 = .ok (.iconst 0, 1) := by decide +kernel
theorem dX11_leap_19 : decode cX11_leap 19 = .ok (.invokevirtual 343, 3) := by decide +kernel
theorem dX11_leap_22 : decode cX11_leap 22 = .ok (.invokevirtual 346, 3) := by decide +kernel
theorem dX11_leap_25 : decode cX11_leap 25 = .ok (.ireturn, 1) := by decide +kernel
theorem dX11_leap_26 : decode cX11_leap 26 = .ok (.iload_n 1, 1) := by decide +kernel
theorem dX11_leap_27 : decode cX11_leap 27 = .ok (.aload_n 0, 1) := by decide +kernel
theorem dX11_leap_28 : decode cX11_leap 28 = .ok (.getfield 17, 3) := by decide +kernel
theorem dX11_leap_31 : decode cX11_leap 31 = .ok (.bipush 103, 2) := by decide +kernel
theorem dX11_leap_33 : decode cX11_leap 33 = .ok (.iaload, 1) := by decide +kernel
theorem dX11_leap_34 : decode cX11_leap 34 = .ok (.if_icmp .ne 17, 3) := by decide +kernel
theorem dX11_leap_37 : decode cX11_leap 37 = .ok (.aload_n 0, 1) := by decide +kernel
theorem dX11_leap_38 : decode cX11_leap 38 = .ok (.aload_n 0, 1) := by decide +kernel
theorem dX11_leap_39 : decode cX11_leap 39 = .ok (.iload_n 1, 1) := by decide +kernel
theorem dX11_leap_40 : decode cX11_leap 40 = .ok (.iconst 1, 1) := by decide +kernel
theorem dX11_leap_41 : decode cX11_leap 41 = .ok (.isub, 1) := by decide +kernel
theorem dX11_leap_42 : decode cX11_leap 42 = .ok (.invokevirtual 349, 3) := by decide +kernel
theorem dX11_leap_45 : decode cX11_leap 45 = .ok (.invokevirtual 346, 3) := by decide +kernel
theorem dX11_leap_48 : decode cX11_leap 48 = .ok (.goto 19, 3) := by decide +kernel
theorem dX11_leap_51 : decode cX11_leap 51 = .ok (.aload_n 0, 1) := by decide +kernel
theorem dX11_leap_52 : decode cX11_leap 52 = .ok (.aload_n 0, 1) := by decide +kernel
theorem dX11_leap_53 : decode cX11_leap 53 = .ok (.iload_n 1, 1) := by decide +kernel
theorem dX11_leap_54 : decode cX11_leap 54 = .ok (.iconst 1, 1) := by decide +kernel
theorem dX11_leap_55 : decode cX11_leap 55 = .ok (.isub, 1) := by decide +kernel
theorem dX11_leap_56 : decode cX11_leap 56 = .ok (.invokevirtual 349, 3) := by decide +kernel
theorem dX11_leap_59 : decode cX11_leap 59 = .ok (.aload_n 0, 1) := by decide +kernel
theorem dX11_leap_60 : decode cX11_leap 60 = .ok (.iload_n 1, 1) := by decide +kernel
theorem dX11_leap_61 : decode cX11_leap 61 = .ok (.invokevirtual 343, 3) := by decide +kernel
theorem dX11_leap_64 : decode cX11_leap 64 = .ok (.invokevirtual 277, 3) := by decide +kernel
theorem dX11_leap_67 : decode cX11_leap 67 = .ok (.ireturn, 1) := by decide +kernel
theorem dX11_leaps_0 : decode cX11_leaps 0 = .ok (.iconst 0, 1) := by decide +kernel
theorem dX11_leaps_1 : decode cX11_leaps 1 = .ok (.istore_n 1, 1) := by decide +kernel
theorem dX11_leaps_2 : decode cX11_leaps 2 = .ok (.iconst 0, 1) := by decide +kernel
theorem dX11_leaps_3 : decode cX11_leaps 3 = .ok (.istore_n 2, 1) := by decide +kernel
theorem dX11_leaps_4 : decode cX11_leaps 4 = .ok (.iload_n 2, 1) := by decide +kernel
theorem dX11_leaps_5 : decode cX11_leaps 5 = .ok (.aload_n 0, 1) := by decide +kernel
theorem dX11_leaps_6 : decode cX11_leaps 6 = .ok (.getfield 17, 3) := by decide +kernel
theorem dX11_leaps_9 : decode cX11_leaps 9 = .ok (.bipush 103, 2) := by decide +kernel
theorem dX11_leaps_11 : decode cX11_leaps 11 = .ok (.iaload, 1) := by decide +kernel
theorem dX11_leaps_12 : decode cX11_leaps 12 = .ok (.if_icmp .gt 17, 3) := by decide +kernel
theorem dX11_leaps_15 : decode cX11_leaps 15 = .ok (.iload_n 1, 1) := by decide +kernel
theorem dX11_leaps_16 : decode cX11_leaps 16 = .ok (.aload_n 0, 1) := by decide +kernel
theorem dX11_leaps_17 : decode cX11_leaps 17 = .ok (.iload_n 2, 1) := by decide +kernel
theorem dX11_leaps_18 : decode cX11_leaps 18 = .ok (.invokevirtual 352, 3) := by decide +kernel
theorem dX11_leaps_21 : decode cX11_leaps 21 = .ok (.iadd, 1) := by decide +kernel
theorem dX11_leaps_22 : decode cX11_leaps 22 = .ok (.istore_n 1, 1) := by decide +kernel
theorem dX11_leaps_23 : decode cX11_leaps 23 = .ok (.iinc 2 1, 3) := by decide +kernel
theorem dX11_leaps_26 : decode cX11_leaps 26 = .ok (.goto (-22), 3) := by decide +kernel
theorem dX11_leaps_29 : decode cX11_leaps 29 = .ok (.iload_n 1, 1) := by decide +kernel
theorem dX11_leaps_30 : decode cX11_leaps 30 = .ok (.ireturn, 1) := by decide +kernel
theorem dX11_longOf_0 : decode cX11_longOf 0 = .ok (.iconst 0, 1) := by decide +kernel
theorem dX11_longOf_1 : decode cX11_longOf 1 = .ok (.istore_n 2, 1) := by decide +kernel
theorem dX11_longOf_2 : decode cX11_longOf 2 = .ok (.iconst 0, 1) := by decide +kernel
theorem dX11_longOf_3 : decode cX11_longOf 3 = .ok (.istore_n 3, 1) := by decide +kernel
theorem dX11_longOf_4 : decode cX11_longOf 4 = .ok (.iload_n 3, 1) := by decide +kernel
theorem dX11_longOf_5 : decode cX11_longOf 5 = .ok (.aload_n 0, 1) := by decide +kernel
theorem dX11_longOf_6 : decode cX11_longOf 6 = .ok (.getfield 90, 3) := by decide +kernel
theorem dX11_longOf_9 : decode cX11_longOf 9 = .ok (.iload_n 1, 1) := by decide +kernel
theorem dX11_longOf_10 : decode cX11_longOf 10 = .ok (.iaload, 1) := by decide +kernel
theorem dX11_longOf_11 : decode cX11_longOf 11 = .ok (.if_icmp .ge 43, 3) := by decide +kernel
theorem dX11_longOf_14 : decode cX11_longOf 14 = .ok (.aload_n 0, 1) := by decide +kernel
theorem dX11_longOf_15 : decode cX11_longOf 15 = .ok (.getfield 81, 3) := by decide +kernel
theorem dX11_longOf_18 : decode cX11_longOf 18 = .ok (.aload_n 0, 1) := by decide +kernel
theorem dX11_longOf_19 : decode cX11_longOf 19 = .ok (.getfield 87, 3) := by decide +kernel
theorem dX11_longOf_22 : decode cX11_longOf 22 = .ok (.iload_n 1, 1) := by decide +kernel
theorem dX11_longOf_23 : decode cX11_longOf 23 = .ok (.iaload, 1) := by decide +kernel
theorem dX11_longOf_24 : decode cX11_longOf 24 = .ok (.iload_n 3, 1) := by decide +kernel
theorem dX11_longOf_25 : decode cX11_longOf 25 = .ok (.iadd, 1) := by decide +kernel
theorem dX11_longOf_26 : decode cX11_longOf 26 = .ok (.iaload, 1) := by decide +kernel
theorem dX11_longOf_27 : decode cX11_longOf 27 = .ok (.iconst 2, 1) := by decide +kernel
theorem dX11_longOf_28 : decode cX11_longOf 28 = .ok (.idiv, 1) := by decide +kernel
theorem dX11_longOf_29 : decode cX11_longOf 29 = .ok (.istore 4, 2) := by decide +kernel
theorem dX11_longOf_31 : decode cX11_longOf 31 = .ok (.iload_n 2, 1) := by decide +kernel
theorem dX11_longOf_32 : decode cX11_longOf 32 = .ok (.aload_n 0, 1) := by decide +kernel
theorem dX11_longOf_33 : decode cX11_longOf 33 = .ok (.iconst 2, 1) := by decide +kernel
theorem dX11_longOf_34 : decode cX11_longOf 34 = .ok (.iload 4, 2) := by decide +kernel
theorem dX11_longOf_36 : decode cX11_longOf 36 = .ok (.imul, 1) := by decide +kernel
theorem dX11_longOf_37 : decode cX11_longOf 37 = .ok (.iconst 2, 1) := by decide +kernel
theorem dX11_longOf_38 : decode cX11_longOf 38 = .ok (.iload 4, 2) := by decide +kernel
theorem dX11_longOf_40 : decode cX11_longOf 40 = .ok (.imul, 1) := by decide +kernel
theorem dX11_longOf_41 : decode cX11_longOf 41 = .ok (.iconst 1, 1) := by decide +kernel
theorem dX11_longOf_42 : decode cX11_longOf 42 = .ok (.iadd, 1) := by decide +kernel
theorem dX11_longOf_43 : decode cX11_longOf 43 = .ok (.invokevirtual 241, 3) := by decide +kernel
theorem dX11_longOf_46 : decode cX11_longOf 46 = .ok (.iadd, 1) := by decide +kernel
theorem dX11_longOf_47 : decode cX11_longOf 47 = .ok (.istore_n 2, 1) := by decide +kernel
theorem dX11_longOf_48 : decode cX11_longOf 48 = .ok (.iinc 3 1, 3) := by decide +kernel
theorem dX11_longOf_51 : decode cX11_longOf 51 = .ok (.goto (-47), 3) := by decide +kernel
theorem dX11_longOf_54 : decode cX11_longOf 54 = .ok (.iload_n 2, 1) := by decide +kernel
theorem dX11_longOf_55 : decode cX11_longOf 55 = .ok (.ireturn, 1) := by decide +kernel
theorem dX11_trail_0 : decode cX11_trail 0 = .ok (.aload_n 0, 1) := by decide +kernel
theorem dX11_trail_1 : decode cX11_trail 1 = .ok (.aload_n 0, 1) := by decide +kernel
theorem dX11_trail_2 : decode cX11_trail 2 = .ok (.getfield 223, 3) := by decide +kernel
theorem dX11_trail_5 : decode cX11_trail 5 = .ok (.ifCond .eq 34, 3) := by decide +kernel
theorem dX11_trail_8 : decode cX11_trail 8 = .ok (.iload_n 1, 1) := by decide +kernel
theorem dX11_trail_9 : decode cX11_trail 9 = .ok (.iconst 0, 1) := by decide +kernel
theorem dX11_trail_10 : decode cX11_trail 10 = .ok (.aload_n 0, 1) := by decide +kernel
theorem dX11_trail_11 : decode cX11_trail 11 = .ok (.getfield 17, 3) := by decide +kernel
theorem dX11_trail_14 : decode cX11_trail 14 = .ok (.bipush 103, 2) := by decide +kernel
theorem dX11_trail_16 : decode cX11_trail 16 = .ok (.iaload, 1) := by decide +kernel
theorem dX11_trail_17 : decode cX11_trail 17 = .ok (.iconst 1, 1) := by decide +kernel
theorem dX11_trail_18 : decode cX11_trail 18 = .ok (.isub, 1) := by decide +kernel
theorem dX11_trail_19 : decode cX11_trail 19 = .ok (.invokestatic 128, 3) := by decide +kernel
theorem dX11_trail_22 : decode cX11_trail 22 = .ok (.ifCond .eq 17, 3) := by decide +kernel
theorem dX11_trail_25 : decode cX11_trail 25 = .ok (.iload_n 2, 1) := by decide +kernel
theorem dX11_trail_26 : decode cX11_trail 26 = .ok (.iconst 0, 1) := by decide +kernel
theorem dX11_trail_27 : decode cX11_trail 27 = .ok (.bipush 6, 2) := by decide +kernel
theorem dX11_trail_29 : decode cX11_trail 29 = .ok (.invokestatic 128, 3) := by decide +kernel
theorem dX11_trail_32 : decode cX11_trail 32 = .ok (.ifCond .eq 7, 3) := by decide +kernel
theorem dX11_trail_35 : decode cX11_trail 35 = .ok (.iconst 1, 1) := by decide +kernel
theorem dX11_trail_36 : decode cX11_trail 36 = .ok (.goto 4, 3) := by decide +kernel
theorem dX11_trail_39 : decode cX11_trail 39 = .ok (.iconst 0, 1) := by decide +kernel
theorem dX11_trail_40 : decode cX11_trail 40 = .ok (.invokevirtual 318, 3) := by decide +kernel
theorem dX11_trail_43 : decode cX11_trail 43 = .ok (.ifCond .ne 5, 3) := by decide +kernel
theorem dX11_trail_46 : decode cX11_trail 46 = .ok (.iconst (-1), 1) := by decide +kernel
theorem dX11_trail_47 : decode cX11_trail 47 = .ok (.ireturn, 1) := by decide +kernel
theorem dX11_trail_48 : decode cX11_trail 48 = .ok (.iload_n 2, 1) := by decide +kernel
theorem dX11_trail_49 : decode cX11_trail 49 = .ok (.tableswitch 94 0 5 #[39, 50, 61, 67, 73, 83], 39) := by decide +kernel
theorem dX11_trail_88 : decode cX11_trail 88 = .ok (.aload_n 0, 1) := by decide +kernel
theorem dX11_trail_89 : decode cX11_trail 89 = .ok (.getfield 84, 3) := by decide +kernel
theorem dX11_trail_92 : decode cX11_trail 92 = .ok (.aload_n 0, 1) := by decide +kernel
theorem dX11_trail_93 : decode cX11_trail 93 = .ok (.iload_n 1, 1) := by decide +kernel
theorem dX11_trail_94 : decode cX11_trail 94 = .ok (.invokevirtual 340, 3) := by decide +kernel
theorem dX11_trail_97 : decode cX11_trail 97 = .ok (.iaload, 1) := by decide +kernel
theorem dX11_trail_98 : decode cX11_trail 98 = .ok (.ireturn, 1) := by decide +kernel
theorem dX11_trail_99 : decode cX11_trail 99 = .ok (.aload_n 0, 1) := by decide +kernel
theorem dX11_trail_100 : decode cX11_trail 100 = .ok (.getfield 90, 3) := by decide +kernel
theorem dX11_trail_103 : decode cX11_trail 103 = .ok (.aload_n 0, 1) := by decide +kernel
theorem dX11_trail_104 : decode cX11_trail 104 = .ok (.iload_n 1, 1) := by decide +kernel
theorem dX11_trail_105 : decode cX11_trail 105 = .ok (.invokevirtual 340, 3) := by decide +kernel
theorem dX11_trail_108 : decode cX11_trail 108 = .ok (.iaload, 1) := by decide +kernel
theorem dX11_trail_109 : decode cX11_trail 109 = .ok (.ireturn, 1) := by decide +kernel
theorem dX11_trail_110 : decode cX11_trail 110 = .ok (.aload_n 0, 1) := by decide +kernel
theorem dX11_trail_111 : decode cX11_trail 111 = .ok (.iload_n 1, 1) := by decide +kernel
theorem dX11_trail_112 : decode cX11_trail 112 = .ok (.invokevirtual 343, 3) := by decide +kernel
theorem dX11_trail_115 : decode cX11_trail 115 = .ok (.ireturn, 1) := by decide +kernel
theorem dX11_trail_116 : decode cX11_trail 116 = .ok (.aload_n 0, 1) := by decide +kernel
theorem dX11_trail_117 : decode cX11_trail 117 = .ok (.iload_n 1, 1) := by decide +kernel
theorem dX11_trail_118 : decode cX11_trail 118 = .ok (.invokevirtual 349, 3) := by decide +kernel
theorem dX11_trail_121 : decode cX11_trail 121 = .ok (.ireturn, 1) := by decide +kernel
theorem dX11_trail_122 : decode cX11_trail 122 = .ok (.aload_n 0, 1) := by decide +kernel
theorem dX11_trail_123 : decode cX11_trail 123 = .ok (.aload_n 0, 1) := by decide +kernel
theorem dX11_trail_124 : decode cX11_trail 124 = .ok (.iload_n 1, 1) := by decide +kernel
theorem dX11_trail_125 : decode cX11_trail 125 = .ok (.invokevirtual 340, 3) := by decide +kernel
theorem dX11_trail_128 : decode cX11_trail 128 = .ok (.invokevirtual 355, 3) := by decide +kernel
theorem dX11_trail_131 : decode cX11_trail 131 = .ok (.ireturn, 1) := by decide +kernel
theorem dX11_trail_132 : decode cX11_trail 132 = .ok (.aload_n 0, 1) := by decide +kernel
theorem dX11_trail_133 : decode cX11_trail 133 = .ok (.getfield 17, 3) := by decide +kernel
theorem dX11_trail_136 : decode cX11_trail 136 = .ok (.sipush 128, 3) := by decide +kernel
theorem dX11_trail_139 : decode cX11_trail 139 = .ok (.iload_n 1, 1) := by decide +kernel
theorem dX11_trail_140 : decode cX11_trail 140 = .ok (.iadd, 1) := by decide +kernel
theorem dX11_trail_141 : decode cX11_trail 141 = .ok (.iaload, 1) := by decide +kernel
theorem dX11_trail_142 : decode cX11_trail 142 = .ok (.ireturn, 1) := by decide +kernel
theorem dX11_trail_143 : decode cX11_trail 143 = .ok (.aload_n 0, 1) := by decide +kernel
theorem dX11_trail_144 : decode cX11_trail 144 = .ok (.iload_n 1, 1) := by decide +kernel
theorem dX11_trail_145 : decode cX11_trail 145 = .ok (.invokevirtual 340, 3) := by decide +kernel
theorem dX11_trail_148 : decode cX11_trail 148 = .ok (.ireturn, 1) := by decide +kernel
theorem dX11_rideAt_0 : decode cX11_rideAt 0 = .ok (.aload_n 0, 1) := by decide +kernel
theorem dX11_rideAt_1 : decode cX11_rideAt 1 = .ok (.iload_n 1, 1) := by decide +kernel
theorem dX11_rideAt_2 : decode cX11_rideAt 2 = .ok (.invokevirtual 340, 3) := by decide +kernel
theorem dX11_rideAt_5 : decode cX11_rideAt 5 = .ok (.istore_n 3, 1) := by decide +kernel
theorem dX11_rideAt_6 : decode cX11_rideAt 6 = .ok (.aload_n 0, 1) := by decide +kernel
theorem dX11_rideAt_7 : decode cX11_rideAt 7 = .ok (.iload_n 1, 1) := by decide +kernel
theorem dX11_rideAt_8 : decode cX11_rideAt 8 = .ok (.invokevirtual 337, 3) := by decide +kernel
theorem dX11_rideAt_11 : decode cX11_rideAt 11 = .ok (.ifCond .ne 17, 3) := by decide +kernel
theorem dX11_rideAt_14 : decode cX11_rideAt 14 = .ok (.aload_n 0, 1) := by decide +kernel
theorem dX11_rideAt_15 : decode cX11_rideAt 15 = .ok (.getfield 81, 3) := by decide +kernel
theorem dX11_rideAt_18 : decode cX11_rideAt 18 = .ok (.aload_n 0, 1) := by decide +kernel
theorem dX11_rideAt_19 : decode cX11_rideAt 19 = .ok (.getfield 87, 3) := by decide +kernel
theorem dX11_rideAt_22 : decode cX11_rideAt 22 = .ok (.iload_n 3, 1) := by decide +kernel
theorem dX11_rideAt_23 : decode cX11_rideAt 23 = .ok (.iaload, 1) := by decide +kernel
theorem dX11_rideAt_24 : decode cX11_rideAt 24 = .ok (.iload_n 2, 1) := by decide +kernel
theorem dX11_rideAt_25 : decode cX11_rideAt 25 = .ok (.iadd, 1) := by decide +kernel
theorem dX11_rideAt_26 : decode cX11_rideAt 26 = .ok (.iaload, 1) := by decide +kernel
theorem dX11_rideAt_27 : decode cX11_rideAt 27 = .ok (.ireturn, 1) := by decide +kernel
theorem dX11_rideAt_28 : decode cX11_rideAt 28 = .ok (.aload_n 0, 1) := by decide +kernel
theorem dX11_rideAt_29 : decode cX11_rideAt 29 = .ok (.getfield 81, 3) := by decide +kernel
theorem dX11_rideAt_32 : decode cX11_rideAt 32 = .ok (.aload_n 0, 1) := by decide +kernel
theorem dX11_rideAt_33 : decode cX11_rideAt 33 = .ok (.getfield 87, 3) := by decide +kernel
theorem dX11_rideAt_36 : decode cX11_rideAt 36 = .ok (.iload_n 3, 1) := by decide +kernel
theorem dX11_rideAt_37 : decode cX11_rideAt 37 = .ok (.iaload, 1) := by decide +kernel
theorem dX11_rideAt_38 : decode cX11_rideAt 38 = .ok (.aload_n 0, 1) := by decide +kernel
theorem dX11_rideAt_39 : decode cX11_rideAt 39 = .ok (.getfield 90, 3) := by decide +kernel
theorem dX11_rideAt_42 : decode cX11_rideAt 42 = .ok (.iload_n 3, 1) := by decide +kernel
theorem dX11_rideAt_43 : decode cX11_rideAt 43 = .ok (.iaload, 1) := by decide +kernel
theorem dX11_rideAt_44 : decode cX11_rideAt 44 = .ok (.iadd, 1) := by decide +kernel
theorem dX11_rideAt_45 : decode cX11_rideAt 45 = .ok (.iconst 1, 1) := by decide +kernel
theorem dX11_rideAt_46 : decode cX11_rideAt 46 = .ok (.isub, 1) := by decide +kernel
theorem dX11_rideAt_47 : decode cX11_rideAt 47 = .ok (.iload_n 2, 1) := by decide +kernel
theorem dX11_rideAt_48 : decode cX11_rideAt 48 = .ok (.isub, 1) := by decide +kernel
theorem dX11_rideAt_49 : decode cX11_rideAt 49 = .ok (.iaload, 1) := by decide +kernel
theorem dX11_rideAt_50 : decode cX11_rideAt 50 = .ok (.istore 4, 2) := by decide +kernel
theorem dX11_rideAt_52 : decode cX11_rideAt 52 = .ok (.iload 4, 2) := by decide +kernel
theorem dX11_rideAt_54 : decode cX11_rideAt 54 = .ok (.iconst 2, 1) := by decide +kernel
theorem dX11_rideAt_55 : decode cX11_rideAt 55 = .ok (.irem, 1) := by decide +kernel
theorem dX11_rideAt_56 : decode cX11_rideAt 56 = .ok (.ifCond .ne 10, 3) := by decide +kernel
theorem dX11_rideAt_59 : decode cX11_rideAt 59 = .ok (.iload 4, 2) := by decide +kernel
theorem dX11_rideAt_61 : decode cX11_rideAt 61 = .ok (.iconst 1, 1) := by decide +kernel
theorem dX11_rideAt_62 : decode cX11_rideAt 62 = .ok (.iadd, 1) := by decide +kernel
theorem dX11_rideAt_63 : decode cX11_rideAt 63 = .ok (.goto 7, 3) := by decide +kernel
theorem dX11_rideAt_66 : decode cX11_rideAt 66 = .ok (.iload 4, 2) := by decide +kernel
theorem dX11_rideAt_68 : decode cX11_rideAt 68 = .ok (.iconst 1, 1) := by decide +kernel
theorem dX11_rideAt_69 : decode cX11_rideAt 69 = .ok (.isub, 1) := by decide +kernel
theorem dX11_rideAt_70 : decode cX11_rideAt 70 = .ok (.ireturn, 1) := by decide +kernel
theorem dX11_ride_0 : decode cX11_ride 0 = .ok (.aload_n 0, 1) := by decide +kernel
theorem dX11_ride_1 : decode cX11_ride 1 = .ok (.aload_n 0, 1) := by decide +kernel
theorem dX11_ride_2 : decode cX11_ride 2 = .ok (.getfield 223, 3) := by decide +kernel
theorem dX11_ride_5 : decode cX11_ride 5 = .ok (.ifCond .eq 24, 3) := by decide +kernel
theorem dX11_ride_8 : decode cX11_ride 8 = .ok (.iload_n 1, 1) := by decide +kernel
theorem dX11_ride_9 : decode cX11_ride 9 = .ok (.iconst 0, 1) := by decide +kernel
theorem dX11_ride_10 : decode cX11_ride 10 = .ok (.aload_n 0, 1) := by decide +kernel
theorem dX11_ride_11 : decode cX11_ride 11 = .ok (.getfield 17, 3) := by decide +kernel
theorem dX11_ride_14 : decode cX11_ride 14 = .ok (.bipush 103, 2) := by decide +kernel
theorem dX11_ride_16 : decode cX11_ride 16 = .ok (.iaload, 1) := by decide +kernel
theorem dX11_ride_17 : decode cX11_ride 17 = .ok (.iconst 1, 1) := by decide +kernel
theorem dX11_ride_18 : decode cX11_ride 18 = .ok (.isub, 1) := by decide +kernel
theorem dX11_ride_19 : decode cX11_ride 19 = .ok (.invokestatic 128, 3) := by decide +kernel
theorem dX11_ride_22 : decode cX11_ride 22 = .ok (.ifCond .eq 7, 3) := by decide +kernel
theorem dX11_ride_25 : decode cX11_ride 25 = .ok (.iconst 1, 1) := by decide +kernel
theorem dX11_ride_26 : decode cX11_ride 26 = .ok (.goto 4, 3) := by decide +kernel
theorem dX11_ride_29 : decode cX11_ride 29 = .ok (.iconst 0, 1) := by decide +kernel
theorem dX11_ride_30 : decode cX11_ride 30 = .ok (.invokevirtual 318, 3) := by decide +kernel
theorem dX11_ride_33 : decode cX11_ride 33 = .ok (.ifCond .ne 5, 3) := by decide +kernel
theorem dX11_ride_36 : decode cX11_ride 36 = .ok (.iconst (-1), 1) := by decide +kernel
theorem dX11_ride_37 : decode cX11_ride 37 = .ok (.ireturn, 1) := by decide +kernel
theorem dX11_ride_38 : decode cX11_ride 38 = .ok (.iload_n 2, 1) := by decide +kernel
theorem dX11_ride_39 : decode cX11_ride 39 = .ok (.iconst 0, 1) := by decide +kernel
theorem dX11_ride_40 : decode cX11_ride 40 = .ok (.aload_n 0, 1) := by decide +kernel
theorem dX11_ride_41 : decode cX11_ride 41 = .ok (.getfield 90, 3) := by decide +kernel
theorem dX11_ride_44 : decode cX11_ride 44 = .ok (.aload_n 0, 1) := by decide +kernel
theorem dX11_ride_45 : decode cX11_ride 45 = .ok (.iload_n 1, 1) := by decide +kernel
theorem dX11_ride_46 : decode cX11_ride 46 = .ok (.invokevirtual 340, 3) := by decide +kernel
theorem dX11_ride_49 : decode cX11_ride 49 = .ok (.iaload, 1) := by decide +kernel
theorem dX11_ride_50 : decode cX11_ride 50 = .ok (.iconst 1, 1) := by decide +kernel
theorem dX11_ride_51 : decode cX11_ride 51 = .ok (.isub, 1) := by decide +kernel
theorem dX11_ride_52 : decode cX11_ride 52 = .ok (.invokestatic 128, 3) := by decide +kernel
theorem dX11_ride_55 : decode cX11_ride 55 = .ok (.ifCond .eq 12, 3) := by decide +kernel
theorem dX11_ride_58 : decode cX11_ride 58 = .ok (.aload_n 0, 1) := by decide +kernel
theorem dX11_ride_59 : decode cX11_ride 59 = .ok (.iload_n 1, 1) := by decide +kernel
theorem dX11_ride_60 : decode cX11_ride 60 = .ok (.iload_n 2, 1) := by decide +kernel
