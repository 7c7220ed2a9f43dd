theorem dL_cell_0 : decode cL_cell 0 = .ok (.iload_n 1, 1) := by decide +kernel
theorem dL_cell_1 : decode cL_cell 1 = .ok (.aload_n 0, 1) := by decide +kernel
theorem dL_cell_2 : decode cL_cell 2 = .ok (.arraylength, 1) := by decide +kernel
theorem dL_cell_3 : decode cL_cell 3 = .ok (.if_icmp .ge 12, 3) := by decide +kernel
theorem dL_cell_6 : decode cL_cell 6 = .ok (.aload_n 0, 1) := by decide +kernel
theorem dL_cell_7 : decode cL_cell 7 = .ok (.iload_n 1, 1) := by decide +kernel
theorem dL_cell_8 : decode cL_cell 8 = .ok (.iaload, 1) := by decide +kernel
theorem dL_cell_9 : decode cL_cell 9 = .ok (.ldc 9, 2) := by decide +kernel
theorem dL_cell_11 : decode cL_cell 11 = .ok (.iand, 1) := by decide +kernel
theorem dL_cell_12 : decode cL_cell 12 = .ok (.goto 13, 3) := by decide +kernel
theorem dL_cell_15 : decode cL_cell 15 = .ok (.bipush 23, 2) := by decide +kernel
theorem dL_cell_17 : decode cL_cell 17 = .ok (.bipush 53, 2) := by decide +kernel
theorem dL_cell_19 : decode cL_cell 19 = .ok (.iload_n 1, 1) := by decide +kernel
theorem dL_cell_20 : decode cL_cell 20 = .ok (.aload_n 0, 1) := by decide +kernel
theorem dL_cell_21 : decode cL_cell 21 = .ok (.arraylength, 1) := by decide +kernel
theorem dL_cell_22 : decode cL_cell 22 = .ok (.isub, 1) := by decide +kernel
theorem dL_cell_23 : decode cL_cell 23 = .ok (.imul, 1) := by decide +kernel
theorem dL_cell_24 : decode cL_cell 24 = .ok (.iadd, 1) := by decide +kernel
theorem dL_cell_25 : decode cL_cell 25 = .ok (.ireturn, 1) := by decide +kernel
set_option maxRecDepth 20000 in
theorem ggL_lay_X8_init : GoodIn wsL_lay wsX8_init := goodIn_r _ [6, 7, 8, 9, 10, 11, 12, 13, 14, 15, 16, 17, 18, 19, 20, 21, 87, 88, 89, 90, 91, 92, 93, 94, 95, 96, 97, 98, 99, 100, 101, 102] (by exact rfl) (by decide +kernel)
set_option maxRecDepth 20000 in
theorem gL_lay_X8_init_n76 : GoodIn wsL_lay (wsX8_init) := ggL_lay_X8_init
set_option maxRecDepth 20000 in
theorem ggL_lay_L_cell : GoodIn wsL_lay wsL_cell := goodIn_r _ [25, 26] (by exact rfl) (by decide +kernel)
set_option maxRecDepth 20000 in
theorem gL_lay_L_cell : GoodIn wsL_lay (va_wsS RL 77 yL_cell wsL_cell) := goodIn_app (goodIn_of _ (by decide +kernel)) ggL_lay_L_cell
set_option maxRecDepth 20000 in
theorem ggL_lay_X7_basin : GoodIn wsL_lay wsX7_basin := goodIn_r _ [31, 32, 33, 34, 35, 36, 37, 38, 30, 39, 40, 41, 42, 43, 44, 45, 46, 47, 48, 49, 50, 51, 52, 53, 54, 55, 56, 57, 58, 59, 103, 104, 105, 106, 107, 108, 109, 110, 111, 112, 113, 114, 115, 116, 117, 118, 119, 120, 121, 122, 123] (by exact rfl) (by decide +kernel)
set_option maxRecDepth 20000 in
theorem gL_lay_X7_basin : GoodIn wsL_lay (wsV RL 81 RX7 yX7_basin wsX7_basin) := goodIn_app (goodIn_of _ (by decide +kernel)) ggL_lay_X7_basin
set_option maxRecDepth 20000 in
theorem ggL_lay_X7_change : GoodIn wsL_lay wsX7_change := goodIn_r _ [63, 34, 32, 64, 65, 66, 67, 68, 36, 37, 38, 30, 39, 33, 44, 45, 46, 47, 48, 69, 70, 71, 72, 73, 74, 75, 103, 104, 105, 106, 107, 108, 109, 110, 111, 112, 113, 114, 115, 116, 117, 118, 119, 120, 121, 122, 123] (by exact rfl) (by decide +kernel)
set_option maxRecDepth 20000 in
theorem gL_lay_X7_change : GoodIn wsL_lay (wsV RL 84 RX7 yX7_change wsX7_change) := goodIn_app (goodIn_of _ (by decide +kernel)) ggL_lay_X7_change
set_option maxRecDepth 20000 in
theorem ggL_lay_X8_add : GoodIn wsL_lay wsX8_add := goodIn_r _ [79, 11, 80, 12, 13, 14, 15, 87, 88, 89, 90, 91, 92, 93, 94, 95, 96, 97, 98, 99, 100, 101, 102] (by exact rfl) (by decide +kernel)
set_option maxRecDepth 20000 in
theorem gL_lay_X8_add : GoodIn wsL_lay (wsV RL 88 RX8 yX8_add wsX8_add) := goodIn_app (goodIn_of _ (by decide +kernel)) ggL_lay_X8_add
set_option maxRecDepth 20000 in
theorem ggL_lay_X7_spring : GoodIn wsL_lay wsX7_spring := goodIn_r _ [84, 85, 34, 32, 86, 73, 74, 30, 75, 44, 45, 46, 47, 48, 103, 104, 105, 106, 107, 108, 109, 110, 111, 112, 113, 114, 115, 116, 117, 118, 119, 120, 121, 122, 123] (by exact rfl) (by decide +kernel)
set_option maxRecDepth 20000 in
theorem gL_lay_X7_spring : GoodIn wsL_lay (wsV RL 93 RX7 yX7_spring wsX7_spring) := goodIn_app (goodIn_of _ (by decide +kernel)) ggL_lay_X7_spring
theorem dL_lay_0 : decode cL_lay 0 = .ok (.new 11, 3) := by decide +kernel
theorem dL_lay_3 : decode cL_lay 3 = .ok (.dup, 1) := by decide +kernel
theorem dL_lay_4 : decode cL_lay 4 = .ok (.invokespecial 76, 3) := by decide +kernel
theorem dL_lay_7 : decode cL_lay 7 = .ok (.astore 4, 2) := by decide +kernel
theorem dL_lay_9 : decode cL_lay 9 = .ok (.aload_n 1, 1) := by decide +kernel
theorem dL_lay_10 : decode cL_lay 10 = .ok (.iload_n 2, 1) := by decide +kernel
theorem dL_lay_11 : decode cL_lay 11 = .ok (.invokestatic 77, 3) := by decide +kernel
theorem dL_lay_14 : decode cL_lay 14 = .ok (.iload_n 3, 1) := by decide +kernel
theorem dL_lay_15 : decode cL_lay 15 = .ok (.iconst 1, 1) := by decide +kernel
theorem dL_lay_16 : decode cL_lay 16 = .ok (.iadd, 1) := by decide +kernel
theorem dL_lay_17 : decode cL_lay 17 = .ok (.irem, 1) := by decide +kernel
theorem dL_lay_18 : decode cL_lay 18 = .ok (.istore 5, 2) := by decide +kernel
theorem dL_lay_20 : decode cL_lay 20 = .ok (.iconst 0, 1) := by decide +kernel
theorem dL_lay_21 : decode cL_lay 21 = .ok (.istore 6, 2) := by decide +kernel
theorem dL_lay_23 : decode cL_lay 23 = .ok (.iload 6, 2) := by decide +kernel
theorem dL_lay_25 : decode cL_lay 25 = .ok (.iload 5, 2) := by decide +kernel
theorem dL_lay_27 : decode cL_lay 27 = .ok (.if_icmp .ge 226, 3) := by decide +kernel
theorem dL_lay_30 : decode cL_lay 30 = .ok (.aload_n 1, 1) := by decide +kernel
theorem dL_lay_31 : decode cL_lay 31 = .ok (.iload_n 2, 1) := by decide +kernel
theorem dL_lay_32 : decode cL_lay 32 = .ok (.iconst 1, 1) := by decide +kernel
theorem dL_lay_33 : decode cL_lay 33 = .ok (.iadd, 1) := by decide +kernel
theorem dL_lay_34 : decode cL_lay 34 = .ok (.iload 6, 2) := by decide +kernel
theorem dL_lay_36 : decode cL_lay 36 = .ok (.iadd, 1) := by decide +kernel
theorem dL_lay_37 : decode cL_lay 37 = .ok (.invokestatic 77, 3) := by decide +kernel
theorem dL_lay_40 : decode cL_lay 40 = .ok (.istore 7, 2) := by decide +kernel
theorem dL_lay_42 : decode cL_lay 42 = .ok (.iload 7, 2) := by decide +kernel
theorem dL_lay_44 : decode cL_lay 44 = .ok (.iconst 3, 1) := by decide +kernel
theorem dL_lay_45 : decode cL_lay 45 = .ok (.iand, 1) := by decide +kernel
theorem dL_lay_46 : decode cL_lay 46 = .ok (.ifCond .ne 13, 3) := by decide +kernel
theorem dL_lay_49 : decode cL_lay 49 = .ok (.iload 7, 2) := by decide +kernel
theorem dL_lay_51 : decode cL_lay 51 = .ok (.iconst 2, 1) := by decide +kernel
theorem dL_lay_52 : decode cL_lay 52 = .ok (.iushr, 1) := by decide +kernel
theorem dL_lay_53 : decode cL_lay 53 = .ok (.bipush 7, 2) := by decide +kernel
theorem dL_lay_55 : decode cL_lay 55 = .ok (.irem, 1) := by decide +kernel
theorem dL_lay_56 : decode cL_lay 56 = .ok (.goto 21, 3) := by decide +kernel
theorem dL_lay_59 : decode cL_lay 59 = .ok (.iload 7, 2) := by decide +kernel
theorem dL_lay_61 : decode cL_lay 61 = .ok (.iconst 3, 1) := by decide +kernel
theorem dL_lay_62 : decode cL_lay 62 = .ok (.iand, 1) := by decide +kernel
theorem dL_lay_63 : decode cL_lay 63 = .ok (.iconst 1, 1) := by decide +kernel
theorem dL_lay_64 : decode cL_lay 64 = .ok (.if_icmp .ne 12, 3) := by decide +kernel
theorem dL_lay_67 : decode cL_lay 67 = .ok (.iload 7, 2) := by decide +kernel
theorem dL_lay_69 : decode cL_lay 69 = .ok (.iconst 2, 1) := by decide +kernel
theorem dL_lay_70 : decode cL_lay 70 = .ok (.iushr, 1) := by decide +kernel
theorem dL_lay_71 : decode cL_lay 71 = .ok (.iconst 3, 1) := by decide +kernel
theorem dL_lay_72 : decode cL_lay 72 = .ok (.irem, 1) := by decide +kernel
theorem dL_lay_73 : decode cL_lay 73 = .ok (.goto 4, 3) := by decide +kernel
theorem dL_lay_76 : decode cL_lay 76 = .ok (.iconst 0, 1) := by decide +kernel
theorem dL_lay_77 : decode cL_lay 77 = .ok (.istore 8, 2) := by decide +kernel
theorem dL_lay_79 : decode cL_lay 79 = .ok (.iload 6, 2) := by decide +kernel
theorem dL_lay_81 : decode cL_lay 81 = .ok (.ifCond .ne 7, 3) := by decide +kernel
theorem dL_lay_84 : decode cL_lay 84 = .ok (.iconst (-1), 1) := by decide +kernel
theorem dL_lay_85 : decode cL_lay 85 = .ok (.goto 28, 3) := by decide +kernel
theorem dL_lay_88 : decode cL_lay 88 = .ok (.iload 7, 2) := by decide +kernel
theorem dL_lay_90 : decode cL_lay 90 = .ok (.bipush 6, 2) := by decide +kernel
theorem dL_lay_92 : decode cL_lay 92 = .ok (.iushr, 1) := by decide +kernel
theorem dL_lay_93 : decode cL_lay 93 = .ok (.iconst 1, 1) := by decide +kernel
theorem dL_lay_94 : decode cL_lay 94 = .ok (.iand, 1) := by decide +kernel
theorem dL_lay_95 : decode cL_lay 95 = .ok (.ifCond .ne 10, 3) := by decide +kernel
theorem dL_lay_98 : decode cL_lay 98 = .ok (.iload 6, 2) := by decide +kernel
theorem dL_lay_100 : decode cL_lay 100 = .ok (.iconst 1, 1) := by decide +kernel
theorem dL_lay_101 : decode cL_lay 101 = .ok (.isub, 1) := by decide +kernel
theorem dL_lay_102 : decode cL_lay 102 = .ok (.goto 11, 3) := by decide +kernel
theorem dL_lay_105 : decode cL_lay 105 = .ok (.iload 7, 2) := by decide +kernel
theorem dL_lay_107 : decode cL_lay 107 = .ok (.bipush 7, 2) := by decide +kernel
theorem dL_lay_109 : decode cL_lay 109 = .ok (.iushr, 1) := by decide +kernel
theorem dL_lay_110 : decode cL_lay 110 = .ok (.iload 6, 2) := by decide +kernel
theorem dL_lay_112 : decode cL_lay 112 = .ok (.irem, 1) := by decide +kernel
theorem dL_lay_113 : decode cL_lay 113 = .ok (.istore 9, 2) := by decide +kernel
theorem dL_lay_115 : decode cL_lay 115 = .ok (.iload 7, 2) := by decide +kernel
theorem dL_lay_117 : decode cL_lay 117 = .ok (.bipush 12, 2) := by decide +kernel
theorem dL_lay_119 : decode cL_lay 119 = .ok (.iushr, 1) := by decide +kernel
theorem dL_lay_120 : decode cL_lay 120 = .ok (.iconst 1, 1) := by decide +kernel
theorem dL_lay_121 : decode cL_lay 121 = .ok (.iand, 1) := by decide +kernel
theorem dL_lay_122 : decode cL_lay 122 = .ok (.ifCond .ne 7, 3) := by decide +kernel
theorem dL_lay_125 : decode cL_lay 125 = .ok (.iconst 1, 1) := by decide +kernel
theorem dL_lay_126 : decode cL_lay 126 = .ok (.goto 13, 3) := by decide +kernel
theorem dL_lay_129 : decode cL_lay 129 = .ok (.iconst 1, 1) := by decide +kernel
theorem dL_lay_130 : decode cL_lay 130 = .ok (.iload 7, 2) := by decide +kernel
theorem dL_lay_132 : decode cL_lay 132 = .ok (.bipush 13, 2) := by decide +kernel
theorem dL_lay_134 : decode cL_lay 134 = .ok (.iushr, 1) := by decide +kernel
theorem dL_lay_135 : decode cL_lay 135 = .ok (.bipush 9, 2) := by decide +kernel
theorem dL_lay_137 : decode cL_lay 137 = .ok (.irem, 1) := by decide +kernel
theorem dL_lay_138 : decode cL_lay 138 = .ok (.iadd, 1) := by decide +kernel
theorem dL_lay_139 : decode cL_lay 139 = .ok (.istore 10, 2) := by decide +kernel
theorem dL_lay_141 : decode cL_lay 141 = .ok (.aload_n 0, 1) := by decide +kernel
theorem dL_lay_142 : decode cL_lay 142 = .ok (.iload 8, 2) := by decide +kernel
theorem dL_lay_144 : decode cL_lay 144 = .ok (.iload 9, 2) := by decide +kernel
theorem dL_lay_146 : decode cL_lay 146 = .ok (.invokevirtual 81, 3) := by decide +kernel
theorem dL_lay_149 : decode cL_lay 149 = .ok (.iload 6, 2) := by decide +kernel
theorem dL_lay_151 : decode cL_lay 151 = .ok (.if_icmp .ne 22, 3) := by decide +kernel
theorem dL_lay_154 : decode cL_lay 154 = .ok (.iload 10, 2) := by decide +kernel
theorem dL_lay_156 : decode cL_lay 156 = .ok (.iconst 1, 1) := by decide +kernel
theorem dL_lay_157 : decode cL_lay 157 = .ok (.if_icmp .le 18, 3) := by decide +kernel
theorem dL_lay_160 : decode cL_lay 160 = .ok (.aload_n 0, 1) := by decide +kernel
theorem dL_lay_161 : decode cL_lay 161 = .ok (.iload 6, 2) := by decide +kernel
theorem dL_lay_163 : decode cL_lay 163 = .ok (.iconst 2, 1) := by decide +kernel
theorem dL_lay_164 : decode cL_lay 164 = .ok (.iload 10, 2) := by decide +kernel
theorem dL_lay_166 : decode cL_lay 166 = .ok (.invokevirtual 84, 3) := by decide +kernel
theorem dL_lay_169 : decode cL_lay 169 = .ok (.iconst 1, 1) := by decide +kernel
theorem dL_lay_170 : decode cL_lay 170 = .ok (.if_icmp .eq 5, 3) := by decide +kernel
theorem dL_lay_173 : decode cL_lay 173 = .ok (.aconst_null, 1) := by decide +kernel
theorem dL_lay_174 : decode cL_lay 174 = .ok (.areturn, 1) := by decide +kernel
theorem dL_lay_175 : decode cL_lay 175 = .ok (.aload 4, 2) := by decide +kernel
theorem dL_lay_177 : decode cL_lay 177 = .ok (.iload 8, 2) := by decide +kernel
theorem dL_lay_179 : decode cL_lay 179 = .ok (.iload 9, 2) := by decide +kernel
theorem dL_lay_181 : decode cL_lay 181 = .ok (.iload 10, 2) := by decide +kernel
theorem dL_lay_183 : decode cL_lay 183 = .ok (.invokevirtual 88, 3) := by decide +kernel
theorem dL_lay_186 : decode cL_lay 186 = .ok (.aload 4, 2) := by decide +kernel
theorem dL_lay_188 : decode cL_lay 188 = .ok (.getfield 35, 3) := by decide +kernel
theorem dL_lay_191 : decode cL_lay 191 = .ok (.iload 6, 2) := by decide +kernel
theorem dL_lay_193 : decode cL_lay 193 = .ok (.iload 7, 2) := by decide +kernel
theorem dL_lay_195 : decode cL_lay 195 = .ok (.bipush 17, 2) := by decide +kernel
theorem dL_lay_197 : decode cL_lay 197 = .ok (.iushr, 1) := by decide +kernel
theorem dL_lay_198 : decode cL_lay 198 = .ok (.iconst 3, 1) := by decide +kernel
theorem dL_lay_199 : decode cL_lay 199 = .ok (.iand, 1) := by decide +kernel
theorem dL_lay_200 : decode cL_lay 200 = .ok (.ifCond .ne 14, 3) := by decide +kernel
theorem dL_lay_203 : decode cL_lay 203 = .ok (.iload 7, 2) := by decide +kernel
theorem dL_lay_205 : decode cL_lay 205 = .ok (.bipush 19, 2) := by decide +kernel
theorem dL_lay_207 : decode cL_lay 207 = .ok (.iushr, 1) := by decide +kernel
theorem dL_lay_208 : decode cL_lay 208 = .ok (.bipush 31, 2) := by decide +kernel
theorem dL_lay_210 : decode cL_lay 210 = .ok (.irem, 1) := by decide +kernel
theorem dL_lay_211 : decode cL_lay 211 = .ok (.goto 4, 3) := by decide +kernel
theorem dL_lay_214 : decode cL_lay 214 = .ok (.iconst 0, 1) := by decide +kernel
theorem dL_lay_215 : decode cL_lay 215 = .ok (.iastore, 1) := by decide +kernel
theorem dL_lay_216 : decode cL_lay 216 = .ok (.aload 4, 2) := by decide +kernel
theorem dL_lay_218 : decode cL_lay 218 = .ok (.getfield 35, 3) := by decide +kernel
theorem dL_lay_221 : decode cL_lay 221 = .ok (.iload 6, 2) := by decide +kernel
theorem dL_lay_223 : decode cL_lay 223 = .ok (.iaload, 1) := by decide +kernel
theorem dL_lay_224 : decode cL_lay 224 = .ok (.ifCond .le 23, 3) := by decide +kernel
theorem dL_lay_227 : decode cL_lay 227 = .ok (.aload_n 0, 1) := by decide +kernel
theorem dL_lay_228 : decode cL_lay 228 = .ok (.iload 6, 2) := by decide +kernel
theorem dL_lay_230 : decode cL_lay 230 = .ok (.iconst 3, 1) := by decide +kernel
theorem dL_lay_231 : decode cL_lay 231 = .ok (.aload 4, 2) := by decide +kernel
theorem dL_lay_233 : decode cL_lay 233 = .ok (.getfield 35, 3) := by decide +kernel
theorem dL_lay_236 : decode cL_lay 236 = .ok (.iload 6, 2) := by decide +kernel
theorem dL_lay_238 : decode cL_lay 238 = .ok (.iaload, 1) := by decide +kernel
theorem dL_lay_239 : decode cL_lay 239 = .ok (.invokevirtual 84, 3) := by decide +kernel
theorem dL_lay_242 : decode cL_lay 242 = .ok (.ifCond .eq 5, 3) := by decide +kernel
theorem dL_lay_245 : decode cL_lay 245 = .ok (.aconst_null, 1) := by decide +kernel
theorem dL_lay_246 : decode cL_lay 246 = .ok (.areturn, 1) := by decide +kernel
theorem dL_lay_247 : decode cL_lay 247 = .ok (.iinc 6 1, 3) := by decide +kernel
theorem dL_lay_250 : decode cL_lay 250 = .ok (.goto (-227), 3) := by decide +kernel
theorem dL_lay_253 : decode cL_lay 253 = .ok (.aload_n 1, 1) := by decide +kernel
theorem dL_lay_254 : decode cL_lay 254 = .ok (.iload_n 2, 1) := by decide +kernel
theorem dL_lay_255 : decode cL_lay 255 = .ok (.iconst 1, 1) := by decide +kernel
theorem dL_lay_256 : decode cL_lay 256 = .ok (.iadd, 1) := by decide +kernel
theorem dL_lay_257 : decode cL_lay 257 = .ok (.iload_n 3, 1) := by decide +kernel
theorem dL_lay_258 : decode cL_lay 258 = .ok (.iadd, 1) := by decide +kernel
theorem dL_lay_259 : decode cL_lay 259 = .ok (.invokestatic 77, 3) := by decide +kernel
theorem dL_lay_262 : decode cL_lay 262 = .ok (.istore 6, 2) := by decide +kernel
theorem dL_lay_264 : decode cL_lay 264 = .ok (.aload 4, 2) := by decide +kernel
theorem dL_lay_266 : decode cL_lay 266 = .ok (.iload 6, 2) := by decide +kernel
theorem dL_lay_268 : decode cL_lay 268 = .ok (.iconst 1, 1) := by decide +kernel
theorem dL_lay_269 : decode cL_lay 269 = .ok (.iand, 1) := by decide +kernel
theorem dL_lay_270 : decode cL_lay 270 = .ok (.ifCond .ne 14, 3) := by decide +kernel
theorem dL_lay_273 : decode cL_lay 273 = .ok (.iload 6, 2) := by decide +kernel
theorem dL_lay_275 : decode cL_lay 275 = .ok (.iconst 1, 1) := by decide +kernel
theorem dL_lay_276 : decode cL_lay 276 = .ok (.iushr, 1) := by decide +kernel
theorem dL_lay_277 : decode cL_lay 277 = .ok (.sipush 400, 3) := by decide +kernel
theorem dL_lay_280 : decode cL_lay 280 = .ok (.irem, 1) := by decide +kernel
theorem dL_lay_281 : decode cL_lay 281 = .ok (.goto 10, 3) := by decide +kernel
theorem dL_lay_284 : decode cL_lay 284 = .ok (.iload 6, 2) := by decide +kernel
theorem dL_lay_286 : decode cL_lay 286 = .ok (.iconst 1, 1) := by decide +kernel
theorem dL_lay_287 : decode cL_lay 287 = .ok (.iushr, 1) := by decide +kernel
theorem dL_lay_288 : decode cL_lay 288 = .ok (.ldc 92, 2) := by decide +kernel
theorem dL_lay_290 : decode cL_lay 290 = .ok (.irem, 1) := by decide +kernel
theorem dL_lay_291 : decode cL_lay 291 = .ok (.putfield 54, 3) := by decide +kernel
theorem dL_lay_294 : decode cL_lay 294 = .ok (.aload_n 0, 1) := by decide +kernel
theorem dL_lay_295 : decode cL_lay 295 = .ok (.aload 4, 2) := by decide +kernel
theorem dL_lay_297 : decode cL_lay 297 = .ok (.getfield 54, 3) := by decide +kernel
theorem dL_lay_300 : decode cL_lay 300 = .ok (.invokevirtual 93, 3) := by decide +kernel
theorem dL_lay_303 : decode cL_lay 303 = .ok (.bipush 81, 2) := by decide +kernel
theorem dL_lay_305 : decode cL_lay 305 = .ok (.if_icmp .ne 8, 3) := by decide +kernel
theorem dL_lay_308 : decode cL_lay 308 = .ok (.aload 4, 2) := by decide +kernel
theorem dL_lay_310 : decode cL_lay 310 = .ok (.goto 4, 3) := by decide +kernel
theorem dL_lay_313 : decode cL_lay 313 = .ok (.aconst_null, 1) := by decide +kernel
theorem dL_lay_314 : decode cL_lay 314 = .ok (.areturn, 1) := by decide +kernel
set_option maxRecDepth 20000 in
theorem ggL_common_L_common : GoodIn wsL_common wsL_common := goodIn_r _ [0, 1, 2, 3] (by exact rfl) (by decide +kernel)
set_option maxRecDepth 20000 in
theorem gL_common_L_common : GoodIn wsL_common (va_wsS RL 95 yL_common wsL_common) := goodIn_app (goodIn_of _ (by decide +kernel)) ggL_common_L_common
theorem dL_common_0 : decode cL_common 0 = .ok (.lload_n 2, 1) := by decide +kernel
theorem dL_common_1 : decode cL_common 1 = .ok (.lconst 0, 1) := by decide +kernel
theorem dL_common_2 : decode cL_common 2 = .ok (.lcmp, 1) := by decide +kernel
theorem dL_common_3 : decode cL_common 3 = .ok (.ifCond .ne 7, 3) := by decide +kernel
theorem dL_common_6 : decode cL_common 6 = .ok (.lload_n 0, 1) := by decide +kernel
theorem dL_common_7 : decode cL_common 7 = .ok (.goto 10, 3) := by decide +kernel
theorem dL_common_10 : decode cL_common 10 = .ok (.lload_n 2, 1) := by decide +kernel
theorem dL_common_11 : decode cL_common 11 = .ok (.lload_n 0, 1) := by decide +kernel
theorem dL_common_12 : decode cL_common 12 = .ok (.lload_n 2, 1) := by decide +kernel
theorem dL_common_13 : decode cL_common 13 = .ok (.lrem, 1) := by decide +kernel
theorem dL_common_14 : decode cL_common 14 = .ok (.invokestatic 95, 3) := by decide +kernel
theorem dL_common_17 : decode cL_common 17 = .ok (.lreturn, 1) := by decide +kernel
set_option maxRecDepth 20000 in
theorem ggL_isSound_X7_count : GoodIn wsL_isSound wsX7_count := goodIn_r _ [5, 6, 7, 8, 9, 10, 11, 12, 13, 14, 15, 16, 17, 18, 19, 20, 21, 22, 23, 24, 25, 26, 27, 28, 29, 4, 30, 31, 160, 161, 162, 163, 164, 165, 166, 167, 168, 169, 170, 171, 172, 173, 174, 175, 176, 177, 178, 179, 180, 181, 182, 183, 184, 185, 186] (by exact rfl) (by decide +kernel)
set_option maxRecDepth 20000 in
theorem gL_isSound_X7_count : GoodIn wsL_isSound (wsV RL 70 RX7 yX7_count wsX7_count) := goodIn_app (goodIn_of _ (by decide +kernel)) ggL_isSound_X7_count
set_option maxRecDepth 20000 in
theorem ggL_isSound_X7_now : GoodIn wsL_isSound wsX7_now := goodIn_r _ [35, 6, 7, 11, 36, 10, 37, 38, 39, 40, 15, 16, 17, 18, 19, 20, 21, 41, 42, 43, 44, 45, 46, 47, 48, 49, 50, 51, 52, 53, 54, 55, 56, 57, 58, 59, 60, 61, 62, 63, 64, 65, 66, 67, 68, 69, 70, 71, 72, 73, 74, 75, 76, 77, 78, 79, 80, 81, 82, 83, 84, 85, 86, 87, 88, 89, 27, 28, 29, 4, 30, 31, 160, 161, 162, 163, 164, 165, 166, 167, 168, 169, 170, 171, 172, 173, 174, 175, 176, 177, 178, 179, 180, 187, 188, 189, 190, 191, 192, 193, 194, 195, 196, 197, 198] (by exact rfl) (by decide +kernel)
set_option maxRecDepth 20000 in
theorem gL_isSound_X7_now : GoodIn wsL_isSound (wsV RL 47 RX7 yX7_now wsX7_now) := goodIn_app (goodIn_of _ (by decide +kernel)) ggL_isSound_X7_now
set_option maxRecDepth 20000 in
theorem ggL_isSound_X7_of : GoodIn wsL_isSound wsX7_of := goodIn_r _ [93, 15, 6, 94, 95, 9, 10, 36, 37, 96, 97, 98, 99, 100, 4, 101, 8, 27, 28, 29, 30, 31, 41, 42, 43, 44, 45, 46, 47, 48, 49, 50, 51, 52, 53, 54, 55, 56, 57, 58, 59, 60, 61, 62, 63, 64, 65, 66, 67, 68, 69, 70, 71, 72, 73, 74, 75, 76, 77, 78, 79, 80, 81, 82, 83, 84, 85, 86, 87, 88, 89, 160, 161, 162, 163, 164, 165, 166, 167, 168, 169, 170, 171, 172, 173, 174, 175, 176, 177, 178, 179, 180, 187, 188, 189, 190, 191, 192, 193, 194, 195, 196, 197, 198] (by exact rfl) (by decide +kernel)
set_option maxRecDepth 20000 in
theorem gL_isSound_X7_of : GoodIn wsL_isSound (wsV RL 19 RX7 yX7_of wsX7_of) := goodIn_app (goodIn_of _ (by decide +kernel)) ggL_isSound_X7_of
set_option maxRecDepth 20000 in
theorem ggL_isSound_X7_under : GoodIn wsL_isSound wsX7_under := goodIn_r _ [105, 15, 6, 8, 95, 98, 99, 100, 4, 101, 106, 107, 108, 27, 28, 29, 30, 31, 160, 161, 162, 163, 164, 165, 166, 167, 168, 169, 170, 171, 172, 173, 174, 175, 176, 177, 178, 179, 180] (by exact rfl) (by decide +kernel)
set_option maxRecDepth 20000 in
theorem gL_isSound_X7_under : GoodIn wsL_isSound (wsV RL 99 RX7 yX7_under wsX7_under) := goodIn_app (goodIn_of _ (by decide +kernel)) ggL_isSound_X7_under
set_option maxRecDepth 20000 in
theorem ggL_isSound_X7_image : GoodIn wsL_isSound wsX7_image := goodIn_r _ [112, 113, 6, 114, 115, 116, 117, 19, 118, 119, 120, 121, 122, 123, 124, 125, 126, 127, 26, 21, 128, 129, 130, 160, 161, 162, 163, 164, 165, 166, 167, 168, 169, 170, 171, 172, 173, 174, 175, 176, 177, 178, 179, 180] (by exact rfl) (by decide +kernel)
set_option maxRecDepth 20000 in
theorem gL_isSound_X7_image : GoodIn wsL_isSound (wsV RL 102 RX7 yX7_image wsX7_image) := goodIn_app (goodIn_of _ (by decide +kernel)) ggL_isSound_X7_image
set_option maxRecDepth 20000 in
theorem ggL_isSound_X7_hours : GoodIn wsL_isSound wsX7_hours := goodIn_r _ [134, 15, 135, 37, 6, 136, 106, 107, 4, 108, 27, 28, 29, 30, 31, 137, 138, 139, 140, 7, 141, 142, 143, 44, 144, 145, 146, 147, 46, 47, 48, 148, 42, 43, 45, 49, 50, 51, 52, 53, 54, 55, 56, 57, 58, 59, 60, 61, 62, 63, 64, 65, 66, 67, 68, 69, 70, 71, 72, 73, 74, 75, 76, 77, 78, 79, 80, 81, 82, 83, 84, 85, 86, 87, 88, 89, 149, 150, 151, 19, 152, 21, 127, 153, 126, 154, 129, 160, 161, 162, 163, 164, 165, 166, 167, 168, 169, 170, 187, 188, 189, 190, 191, 192, 193, 194, 195, 196, 197, 198, 171, 172, 173, 174, 175, 176, 177, 178, 179, 180] (by exact rfl) (by decide +kernel)
set_option maxRecDepth 20000 in
theorem gL_isSound_X7_hours : GoodIn wsL_isSound (wsV RL 106 RX7 yX7_hours wsX7_hours) := goodIn_app (goodIn_of _ (by decide +kernel)) ggL_isSound_X7_hours
set_option maxRecDepth 20000 in
theorem ggL_isSound_X7_undo : GoodIn wsL_isSound wsX7_undo := goodIn_r _ [158, 114, 159, 6, 113, 7, 27, 28, 29, 4, 30, 15, 31, 115, 116, 117, 19, 118, 119, 120, 121, 122, 123, 124, 125, 126, 127, 26, 21, 128, 129, 130, 160, 161, 162, 163, 164, 165, 166, 167, 168, 169, 170, 171, 172, 173, 174, 175, 176, 177, 178, 179, 180] (by exact rfl) (by decide +kernel)
set_option maxRecDepth 20000 in
theorem gL_isSound_X7_undo : GoodIn wsL_isSound (wsV RL 109 RX7 yX7_undo wsX7_undo) := goodIn_app (goodIn_of _ (by decide +kernel)) ggL_isSound_X7_undo
theorem dL_isSound_0 : decode cL_isSound 0 = .ok (.aload_n 0, 1) := by decide +kernel
theorem dL_isSound_1 : decode cL_isSound 1 = .ok (.iconst 1, 1) := by decide +kernel
theorem dL_isSound_2 : decode cL_isSound 2 = .ok (.invokevirtual 70, 3) := by decide +kernel
theorem dL_isSound_5 : decode cL_isSound 5 = .ok (.istore_n 1, 1) := by decide +kernel
theorem dL_isSound_6 : decode cL_isSound 6 = .ok (.aload_n 0, 1) := by decide +kernel
theorem dL_isSound_7 : decode cL_isSound 7 = .ok (.iconst 1, 1) := by decide +kernel
theorem dL_isSound_8 : decode cL_isSound 8 = .ok (.invokevirtual 47, 3) := by decide +kernel
theorem dL_isSound_11 : decode cL_isSound 11 = .ok (.istore_n 2, 1) := by decide +kernel
theorem dL_isSound_12 : decode cL_isSound 12 = .ok (.iload_n 1, 1) := by decide +kernel
theorem dL_isSound_13 : decode cL_isSound 13 = .ok (.ifCond .ne 34, 3) := by decide +kernel
theorem dL_isSound_16 : decode cL_isSound 16 = .ok (.aload_n 0, 1) := by decide +kernel
theorem dL_isSound_17 : decode cL_isSound 17 = .ok (.iconst 4, 1) := by decide +kernel
theorem dL_isSound_18 : decode cL_isSound 18 = .ok (.invokevirtual 47, 3) := by decide +kernel
theorem dL_isSound_21 : decode cL_isSound 21 = .ok (.ifCond .ne 24, 3) := by decide +kernel
theorem dL_isSound_24 : decode cL_isSound 24 = .ok (.aload_n 0, 1) := by decide +kernel
theorem dL_isSound_25 : decode cL_isSound 25 = .ok (.iconst 5, 1) := by decide +kernel
theorem dL_isSound_26 : decode cL_isSound 26 = .ok (.invokevirtual 47, 3) := by decide +kernel
theorem dL_isSound_29 : decode cL_isSound 29 = .ok (.ifCond .ne 16, 3) := by decide +kernel
theorem dL_isSound_32 : decode cL_isSound 32 = .ok (.aload_n 0, 1) := by decide +kernel
theorem dL_isSound_33 : decode cL_isSound 33 = .ok (.bipush 6, 2) := by decide +kernel
theorem dL_isSound_35 : decode cL_isSound 35 = .ok (.invokevirtual 47, 3) := by decide +kernel
theorem dL_isSound_38 : decode cL_isSound 38 = .ok (.ifCond .ne 7, 3) := by decide +kernel
theorem dL_isSound_41 : decode cL_isSound 41 = .ok (.iconst 1, 1) := by decide +kernel
theorem dL_isSound_42 : decode cL_isSound 42 = .ok (.goto 4, 3) := by decide +kernel
theorem dL_isSound_45 : decode cL_isSound 45 = .ok (.iconst 0, 1) := by decide +kernel
theorem dL_isSound_46 : decode cL_isSound 46 = .ok (.ireturn, 1) := by decide +kernel
theorem dL_isSound_47 : decode cL_isSound 47 = .ok (.aload_n 0, 1) := by decide +kernel
theorem dL_isSound_48 : decode cL_isSound 48 = .ok (.iconst 3, 1) := by decide +kernel
theorem dL_isSound_49 : decode cL_isSound 49 = .ok (.invokevirtual 47, 3) := by decide +kernel
theorem dL_isSound_52 : decode cL_isSound 52 = .ok (.istore_n 3, 1) := by decide +kernel
theorem dL_isSound_53 : decode cL_isSound 53 = .ok (.aload_n 0, 1) := by decide +kernel
theorem dL_isSound_54 : decode cL_isSound 54 = .ok (.iconst 2, 1) := by decide +kernel
theorem dL_isSound_55 : decode cL_isSound 55 = .ok (.invokevirtual 47, 3) := by decide +kernel
theorem dL_isSound_58 : decode cL_isSound 58 = .ok (.istore 4, 2) := by decide +kernel
theorem dL_isSound_60 : decode cL_isSound 60 = .ok (.aload_n 0, 1) := by decide +kernel
theorem dL_isSound_61 : decode cL_isSound 61 = .ok (.iconst 4, 1) := by decide +kernel
theorem dL_isSound_62 : decode cL_isSound 62 = .ok (.invokevirtual 47, 3) := by decide +kernel
theorem dL_isSound_65 : decode cL_isSound 65 = .ok (.istore 5, 2) := by decide +kernel
theorem dL_isSound_67 : decode cL_isSound 67 = .ok (.aload_n 0, 1) := by decide +kernel
theorem dL_isSound_68 : decode cL_isSound 68 = .ok (.iconst 5, 1) := by decide +kernel
theorem dL_isSound_69 : decode cL_isSound 69 = .ok (.invokevirtual 47, 3) := by decide +kernel
theorem dL_isSound_72 : decode cL_isSound 72 = .ok (.istore 6, 2) := by decide +kernel
theorem dL_isSound_74 : decode cL_isSound 74 = .ok (.aload_n 0, 1) := by decide +kernel
theorem dL_isSound_75 : decode cL_isSound 75 = .ok (.bipush 6, 2) := by decide +kernel
theorem dL_isSound_77 : decode cL_isSound 77 = .ok (.invokevirtual 47, 3) := by decide +kernel
theorem dL_isSound_80 : decode cL_isSound 80 = .ok (.istore 7, 2) := by decide +kernel
theorem dL_isSound_82 : decode cL_isSound 82 = .ok (.iconst 0, 1) := by decide +kernel
theorem dL_isSound_83 : decode cL_isSound 83 = .ok (.istore 8, 2) := by decide +kernel
theorem dL_isSound_85 : decode cL_isSound 85 = .ok (.iconst 0, 1) := by decide +kernel
theorem dL_isSound_86 : decode cL_isSound 86 = .ok (.istore 9, 2) := by decide +kernel
theorem dL_isSound_88 : decode cL_isSound 88 = .ok (.iload 9, 2) := by decide +kernel
theorem dL_isSound_90 : decode cL_isSound 90 = .ok (.iload_n 1, 1) := by decide +kernel
theorem dL_isSound_91 : decode cL_isSound 91 = .ok (.if_icmp .ge 91, 3) := by decide +kernel
theorem dL_isSound_94 : decode cL_isSound 94 = .ok (.iload 8, 2) := by decide +kernel
theorem dL_isSound_96 : decode cL_isSound 96 = .ok (.aload_n 0, 1) := by decide +kernel
theorem dL_isSound_97 : decode cL_isSound 97 = .ok (.iload 9, 2) := by decide +kernel
theorem dL_isSound_99 : decode cL_isSound 99 = .ok (.bipush 6, 2) := by decide +kernel
theorem dL_isSound_101 : decode cL_isSound 101 = .ok (.invokevirtual 19, 3) := by decide +kernel
theorem dL_isSound_104 : decode cL_isSound 104 = .ok (.iadd, 1) := by decide +kernel
theorem dL_isSound_105 : decode cL_isSound 105 = .ok (.istore 8, 2) := by decide +kernel
theorem dL_isSound_107 : decode cL_isSound 107 = .ok (.aload_n 0, 1) := by decide +kernel
theorem dL_isSound_108 : decode cL_isSound 108 = .ok (.iload 9, 2) := by decide +kernel
theorem dL_isSound_110 : decode cL_isSound 110 = .ok (.bipush 6, 2) := by decide +kernel
theorem dL_isSound_112 : decode cL_isSound 112 = .ok (.invokevirtual 19, 3) := by decide +kernel
theorem dL_isSound_115 : decode cL_isSound 115 = .ok (.aload_n 0, 1) := by decide +kernel
theorem dL_isSound_116 : decode cL_isSound 116 = .ok (.iload 9, 2) := by decide +kernel
theorem dL_isSound_118 : decode cL_isSound 118 = .ok (.iconst 5, 1) := by decide +kernel
theorem dL_isSound_119 : decode cL_isSound 119 = .ok (.invokevirtual 19, 3) := by decide +kernel
theorem dL_isSound_122 : decode cL_isSound 122 = .ok (.if_icmp .gt 52, 3) := by decide +kernel
theorem dL_isSound_125 : decode cL_isSound 125 = .ok (.aload_n 0, 1) := by decide +kernel
theorem dL_isSound_126 : decode cL_isSound 126 = .ok (.iload 9, 2) := by decide +kernel
theorem dL_isSound_128 : decode cL_isSound 128 = .ok (.iconst 3, 1) := by decide +kernel
theorem dL_isSound_129 : decode cL_isSound 129 = .ok (.invokevirtual 19, 3) := by decide +kernel
theorem dL_isSound_132 : decode cL_isSound 132 = .ok (.bipush 30, 2) := by decide +kernel
theorem dL_isSound_134 : decode cL_isSound 134 = .ok (.if_icmp .gt 40, 3) := by decide +kernel
theorem dL_isSound_137 : decode cL_isSound 137 = .ok (.iload 9, 2) := by decide +kernel
theorem dL_isSound_139 : decode cL_isSound 139 = .ok (.ifCond .le 15, 3) := by decide +kernel
theorem dL_isSound_142 : decode cL_isSound 142 = .ok (.aload_n 0, 1) := by decide +kernel
theorem dL_isSound_143 : decode cL_isSound 143 = .ok (.iload 9, 2) := by decide +kernel
theorem dL_isSound_145 : decode cL_isSound 145 = .ok (.iconst 1, 1) := by decide +kernel
theorem dL_isSound_146 : decode cL_isSound 146 = .ok (.invokevirtual 19, 3) := by decide +kernel
theorem dL_isSound_149 : decode cL_isSound 149 = .ok (.iload 9, 2) := by decide +kernel
theorem dL_isSound_151 : decode cL_isSound 151 = .ok (.if_icmp .ge 23, 3) := by decide +kernel
theorem dL_isSound_154 : decode cL_isSound 154 = .ok (.aload_n 0, 1) := by decide +kernel
theorem dL_isSound_155 : decode cL_isSound 155 = .ok (.iload 9, 2) := by decide +kernel
theorem dL_isSound_157 : decode cL_isSound 157 = .ok (.iconst 0, 1) := by decide +kernel
theorem dL_isSound_158 : decode cL_isSound 158 = .ok (.invokevirtual 99, 3) := by decide +kernel
theorem dL_isSound_161 : decode cL_isSound 161 = .ok (.aload_n 0, 1) := by decide +kernel
theorem dL_isSound_162 : decode cL_isSound 162 = .ok (.iload 9, 2) := by decide +kernel
theorem dL_isSound_164 : decode cL_isSound 164 = .ok (.iconst 1, 1) := by decide +kernel
theorem dL_isSound_165 : decode cL_isSound 165 = .ok (.invokevirtual 99, 3) := by decide +kernel
theorem dL_isSound_168 : decode cL_isSound 168 = .ok (.iconst (-1), 1) := by decide +kernel
theorem dL_isSound_169 : decode cL_isSound 169 = .ok (.ixor, 1) := by decide +kernel
theorem dL_isSound_170 : decode cL_isSound 170 = .ok (.iand, 1) := by decide +kernel
theorem dL_isSound_171 : decode cL_isSound 171 = .ok (.ifCond .eq 5, 3) := by decide +kernel
theorem dL_isSound_174 : decode cL_isSound 174 = .ok (.iconst 0, 1) := by decide +kernel
theorem dL_isSound_175 : decode cL_isSound 175 = .ok (.ireturn, 1) := by decide +kernel
theorem dL_isSound_176 : decode cL_isSound 176 = .ok (.iinc 9 1, 3) := by decide +kernel
theorem dL_isSound_179 : decode cL_isSound 179 = .ok (.goto (-91), 3) := by decide +kernel
theorem dL_isSound_182 : decode cL_isSound 182 = .ok (.iload 8, 2) := by decide +kernel
theorem dL_isSound_184 : decode cL_isSound 184 = .ok (.iload 7, 2) := by decide +kernel
theorem dL_isSound_186 : decode cL_isSound 186 = .ok (.if_icmp .ne 31, 3) := by decide +kernel
theorem dL_isSound_189 : decode cL_isSound 189 = .ok (.aload_n 0, 1) := by decide +kernel
theorem dL_isSound_190 : decode cL_isSound 190 = .ok (.iconst 0, 1) := by decide +kernel
theorem dL_isSound_191 : decode cL_isSound 191 = .ok (.iconst 5, 1) := by decide +kernel
theorem dL_isSound_192 : decode cL_isSound 192 = .ok (.invokevirtual 19, 3) := by decide +kernel
theorem dL_isSound_195 : decode cL_isSound 195 = .ok (.iload_n 2, 1) := by decide +kernel
theorem dL_isSound_196 : decode cL_isSound 196 = .ok (.if_icmp .ne 21, 3) := by decide +kernel
theorem dL_isSound_199 : decode cL_isSound 199 = .ok (.aload_n 0, 1) := by decide +kernel
theorem dL_isSound_200 : decode cL_isSound 200 = .ok (.invokevirtual 102, 3) := by decide +kernel
theorem dL_isSound_203 : decode cL_isSound 203 = .ok (.iconst 1, 1) := by decide +kernel
theorem dL_isSound_204 : decode cL_isSound 204 = .ok (.if_icmp .ne 13, 3) := by decide +kernel
theorem dL_isSound_207 : decode cL_isSound 207 = .ok (.aload_n 0, 1) := by decide +kernel
theorem dL_isSound_208 : decode cL_isSound 208 = .ok (.iconst 1, 1) := by decide +kernel
theorem dL_isSound_209 : decode cL_isSound 209 = .ok (.invokevirtual 106, 3) := by decide +kernel
theorem dL_isSound_212 : decode cL_isSound 212 = .ok (.iload 7, 2) := by decide +kernel
theorem dL_isSound_214 : decode cL_isSound 214 = .ok (.if_icmp .eq 5, 3) := by decide +kernel
theorem dL_isSound_217 : decode cL_isSound 217 = .ok (.iconst 0, 1) := by decide +kernel
theorem dL_isSound_218 : decode cL_isSound 218 = .ok (.ireturn, 1) := by decide +kernel
theorem dL_isSound_219 : decode cL_isSound 219 = .ok (.aload_n 0, 1) := by decide +kernel
theorem dL_isSound_220 : decode cL_isSound 220 = .ok (.iconst 3, 1) := by decide +kernel
theorem dL_isSound_221 : decode cL_isSound 221 = .ok (.invokevirtual 47, 3) := by decide +kernel
theorem dL_isSound_224 : decode cL_isSound 224 = .ok (.iload_n 3, 1) := by decide +kernel
theorem dL_isSound_225 : decode cL_isSound 225 = .ok (.isub, 1) := by decide +kernel
theorem dL_isSound_226 : decode cL_isSound 226 = .ok (.istore 9, 2) := by decide +kernel
theorem dL_isSound_228 : decode cL_isSound 228 = .ok (.iload 9, 2) := by decide +kernel
theorem dL_isSound_230 : decode cL_isSound 230 = .ok (.ifCond .lt 31, 3) := by decide +kernel
theorem dL_isSound_233 : decode cL_isSound 233 = .ok (.aload_n 0, 1) := by decide +kernel
theorem dL_isSound_234 : decode cL_isSound 234 = .ok (.iconst 2, 1) := by decide +kernel
theorem dL_isSound_235 : decode cL_isSound 235 = .ok (.invokevirtual 47, 3) := by decide +kernel
theorem dL_isSound_238 : decode cL_isSound 238 = .ok (.iload 4, 2) := by decide +kernel
theorem dL_isSound_240 : decode cL_isSound 240 = .ok (.iload 7, 2) := by decide +kernel
theorem dL_isSound_242 : decode cL_isSound 242 = .ok (.iadd, 1) := by decide +kernel
theorem dL_isSound_243 : decode cL_isSound 243 = .ok (.if_icmp .ne 18, 3) := by decide +kernel
theorem dL_isSound_246 : decode cL_isSound 246 = .ok (.iload_n 2, 1) := by decide +kernel
theorem dL_isSound_247 : decode cL_isSound 247 = .ok (.iload 7, 2) := by decide +kernel
theorem dL_isSound_249 : decode cL_isSound 249 = .ok (.iload 6, 2) := by decide +kernel
theorem dL_isSound_251 : decode cL_isSound 251 = .ok (.iadd, 1) := by decide +kernel
theorem dL_isSound_252 : decode cL_isSound 252 = .ok (.iload 5, 2) := by decide +kernel
theorem dL_isSound_254 : decode cL_isSound 254 = .ok (.iadd, 1) := by decide +kernel
theorem dL_isSound_255 : decode cL_isSound 255 = .ok (.iload 9, 2) := by decide +kernel
theorem dL_isSound_257 : decode cL_isSound 257 = .ok (.iadd, 1) := by decide +kernel
theorem dL_isSound_258 : decode cL_isSound 258 = .ok (.if_icmp .eq 5, 3) := by decide +kernel
theorem dL_isSound_261 : decode cL_isSound 261 = .ok (.iconst 0, 1) := by decide +kernel
theorem dL_isSound_262 : decode cL_isSound 262 = .ok (.ireturn, 1) := by decide +kernel
theorem dL_isSound_263 : decode cL_isSound 263 = .ok (.aload_n 0, 1) := by decide +kernel
theorem dL_isSound_264 : decode cL_isSound 264 = .ok (.invokevirtual 109, 3) := by decide +kernel
theorem dL_isSound_267 : decode cL_isSound 267 = .ok (.ifCond .lt 26, 3) := by decide +kernel
theorem dL_isSound_270 : decode cL_isSound 270 = .ok (.aload_n 0, 1) := by decide +kernel
theorem dL_isSound_271 : decode cL_isSound 271 = .ok (.iconst 2, 1) := by decide +kernel
theorem dL_isSound_272 : decode cL_isSound 272 = .ok (.invokevirtual 47, 3) := by decide +kernel
theorem dL_isSound_275 : decode cL_isSound 275 = .ok (.iload 4, 2) := by decide +kernel
theorem dL_isSound_277 : decode cL_isSound 277 = .ok (.if_icmp .ne 16, 3) := by decide +kernel
theorem dL_isSound_280 : decode cL_isSound 280 = .ok (.aload_n 0, 1) := by decide +kernel
theorem dL_isSound_281 : decode cL_isSound 281 = .ok (.iconst 3, 1) := by decide +kernel
theorem dL_isSound_282 : decode cL_isSound 282 = .ok (.invokevirtual 47, 3) := by decide +kernel
theorem dL_isSound_285 : decode cL_isSound 285 = .ok (.iload_n 3, 1) := by decide +kernel
theorem dL_isSound_286 : decode cL_isSound 286 = .ok (.if_icmp .ne 7, 3) := by decide +kernel
theorem dL_isSound_289 : decode cL_isSound 289 = .ok (.iconst 1, 1) := by decide +kernel
theorem dL_isSound_290 : decode cL_isSound 290 = .ok (.goto 4, 3) := by decide +kernel
theorem dL_isSound_293 : decode cL_isSound 293 = .ok (.iconst 0, 1) := by decide +kernel
theorem dL_isSound_294 : decode cL_isSound 294 = .ok (.ireturn, 1) := by decide +kernel
set_option maxRecDepth 20000 in
theorem ggL_areShares_X7_count : GoodIn wsL_areShares wsX7_count := goodIn_r _ [8, 9, 10, 11, 12, 13, 14, 15, 16, 17, 18, 19, 20, 21, 22, 23, 24, 25, 26, 27, 28, 29, 30, 31, 32, 7, 33, 34, 166, 167, 168, 169, 170, 171, 172, 173, 174, 175, 176, 177, 178, 179, 180, 181, 182, 183, 184, 185, 186, 187, 188, 189, 190, 191, 192] (by exact rfl) (by decide +kernel)
set_option maxRecDepth 20000 in
theorem gL_areShares_X7_count : GoodIn wsL_areShares (wsV RL 70 RX7 yX7_count wsX7_count) := goodIn_app (goodIn_of _ (by decide +kernel)) ggL_areShares_X7_count
set_option maxRecDepth 20000 in
theorem ggL_areShares_X7_of : GoodIn wsL_areShares wsX7_of := goodIn_r _ [38, 18, 9, 39, 40, 12, 13, 41, 42, 43, 44, 45, 46, 47, 7, 48, 11, 30, 31, 32, 33, 34, 49, 50, 51, 52, 53, 54, 55, 56, 57, 58, 59, 60, 61, 62, 63, 64, 65, 66, 67, 68, 69, 70, 71, 72, 73, 74, 75, 76, 77, 78, 79, 80, 81, 82, 83, 84, 85, 86, 87, 88, 89, 90, 91, 92, 93, 94, 95, 96, 97, 166, 167, 168, 169, 170, 171, 172, 173, 174, 175, 176, 177, 178, 179, 180, 181, 182, 183, 184, 185, 186, 193, 194, 195, 196, 197, 198, 199, 200, 201, 202, 203, 204] (by exact rfl) (by decide +kernel)
set_option maxRecDepth 20000 in
theorem gL_areShares_X7_of : GoodIn wsL_areShares (wsV RL 19 RX7 yX7_of wsX7_of) := goodIn_app (goodIn_of _ (by decide +kernel)) ggL_areShares_X7_of
set_option maxRecDepth 20000 in
theorem ggL_areShares_X7_share : GoodIn wsL_areShares wsX7_share := goodIn_r _ [101, 18, 102, 9, 103, 104, 105, 106, 45, 46, 47, 7, 48, 11, 107, 108, 109, 30, 31, 32, 33, 34, 110, 111, 112, 113, 114, 115, 116, 117, 118, 119, 120, 121, 122, 123, 124, 125, 126, 127, 128, 129, 130, 131, 132, 133, 22, 134, 24, 135, 136, 137, 138, 139, 140, 141, 142, 143, 144, 145, 86, 83, 87, 146, 147, 148, 149, 150, 151, 152, 153, 166, 167, 168, 169, 170, 171, 172, 173, 174, 175, 176, 205, 206, 207, 208, 209, 210, 211, 212, 177, 178, 179, 180, 181, 182, 183, 184, 185, 186] (by exact rfl) (by decide +kernel)
set_option maxRecDepth 20000 in
theorem gL_areShares_X7_share : GoodIn wsL_areShares (wsV RL 112 RX7 yX7_share wsX7_share) := goodIn_app (goodIn_of _ (by decide +kernel)) ggL_areShares_X7_share
set_option maxRecDepth 20000 in
theorem ggL_areShares_X7_rest : GoodIn wsL_areShares wsX7_rest := goodIn_r _ [157, 18, 9, 102, 158, 104, 159, 160, 45, 46, 47, 7, 48, 11, 107, 108, 109, 30, 31, 32, 33, 34, 161, 132, 133, 22, 134, 24, 135, 136, 110, 111, 112, 113, 114, 115, 116, 117, 118, 119, 120, 121, 122, 123, 124, 125, 126, 127, 128, 129, 130, 131, 137, 138, 139, 140, 141, 142, 143, 144, 145, 86, 83, 87, 146, 147, 148, 149, 150, 151, 152, 153, 166, 167, 168, 169, 170, 171, 172, 173, 174, 175, 176, 205, 206, 207, 208, 209, 210, 211, 212, 177, 178, 179, 180, 181, 182, 183, 184, 185, 186] (by exact rfl) (by decide +kernel)
set_option maxRecDepth 20000 in
theorem gL_areShares_X7_rest : GoodIn wsL_areShares (wsV RL 116 RX7 yX7_rest wsX7_rest) := goodIn_app (goodIn_of _ (by decide +kernel)) ggL_areShares_X7_rest
set_option maxRecDepth 20000 in
theorem ggL_areShares_L_common : GoodIn wsL_areShares wsL_common := goodIn_r _ [165, 162, 163, 164] (by exact rfl) (by decide +kernel)
set_option maxRecDepth 20000 in
theorem gL_areShares_L_common : GoodIn wsL_areShares (va_wsS RL 95 yL_common wsL_common) := goodIn_app (goodIn_of _ (by decide +kernel)) ggL_areShares_L_common
theorem dL_areShares_0 : decode cL_areShares 0 = .ok (.aload_n 0, 1) := by decide +kernel
theorem dL_areShares_1 : decode cL_areShares 1 = .ok (.iconst 1, 1) := by decide +kernel
theorem dL_areShares_2 : decode cL_areShares 2 = .ok (.invokevirtual 70, 3) := by decide +kernel
theorem dL_areShares_5 : decode cL_areShares 5 = .ok (.istore_n 1, 1) := by decide +kernel
theorem dL_areShares_6 : decode cL_areShares 6 = .ok (.lconst 0, 1) := by decide +kernel
theorem dL_areShares_7 : decode cL_areShares 7 = .ok (.lstore_n 2, 1) := by decide +kernel
theorem dL_areShares_8 : decode cL_areShares 8 = .ok (.lconst 1, 1) := by decide +kernel
theorem dL_areShares_9 : decode cL_areShares 9 = .ok (.lstore 4, 2) := by decide +kernel
theorem dL_areShares_11 : decode cL_areShares 11 = .ok (.iconst 0, 1) := by decide +kernel
theorem dL_areShares_12 : decode cL_areShares 12 = .ok (.istore 6, 2) := by decide +kernel
theorem dL_areShares_14 : decode cL_areShares 14 = .ok (.iconst 0, 1) := by decide +kernel
theorem dL_areShares_15 : decode cL_areShares 15 = .ok (.istore 7, 2) := by decide +kernel
theorem dL_areShares_17 : decode cL_areShares 17 = .ok (.iload 7, 2) := by decide +kernel
theorem dL_areShares_19 : decode cL_areShares 19 = .ok (.iload_n 1, 1) := by decide +kernel
theorem dL_areShares_20 : decode cL_areShares 20 = .ok (.if_icmp .ge 270, 3) := by decide +kernel
theorem dL_areShares_23 : decode cL_areShares 23 = .ok (.iload 6, 2) := by decide +kernel
theorem dL_areShares_25 : decode cL_areShares 25 = .ok (.aload_n 0, 1) := by decide +kernel
theorem dL_areShares_26 : decode cL_areShares 26 = .ok (.iload 7, 2) := by decide +kernel
theorem dL_areShares_28 : decode cL_areShares 28 = .ok (.iconst 0, 1) := by decide +kernel
theorem dL_areShares_29 : decode cL_areShares 29 = .ok (.invokevirtual 19, 3) := by decide +kernel
theorem dL_areShares_32 : decode cL_areShares 32 = .ok (.iconst 2, 1) := by decide +kernel
theorem dL_areShares_33 : decode cL_areShares 33 = .ok (.if_icmp .eq 14, 3) := by decide +kernel
theorem dL_areShares_36 : decode cL_areShares 36 = .ok (.aload_n 0, 1) := by decide +kernel
theorem dL_areShares_37 : decode cL_areShares 37 = .ok (.iload 7, 2) := by decide +kernel
theorem dL_areShares_39 : decode cL_areShares 39 = .ok (.iconst 0, 1) := by decide +kernel
theorem dL_areShares_40 : decode cL_areShares 40 = .ok (.invokevirtual 19, 3) := by decide +kernel
theorem dL_areShares_43 : decode cL_areShares 43 = .ok (.iconst 4, 1) := by decide +kernel
theorem dL_areShares_44 : decode cL_areShares 44 = .ok (.if_icmp .ne 7, 3) := by decide +kernel
theorem dL_areShares_47 : decode cL_areShares 47 = .ok (.iconst 1, 1) := by decide +kernel
theorem dL_areShares_48 : decode cL_areShares 48 = .ok (.goto 4, 3) := by decide +kernel
theorem dL_areShares_51 : decode cL_areShares 51 = .ok (.iconst 0, 1) := by decide +kernel
theorem dL_areShares_52 : decode cL_areShares 52 = .ok (.ior, 1) := by decide +kernel
theorem dL_areShares_53 : decode cL_areShares 53 = .ok (.istore 6, 2) := by decide +kernel
theorem dL_areShares_55 : decode cL_areShares 55 = .ok (.iconst 0, 1) := by decide +kernel
theorem dL_areShares_56 : decode cL_areShares 56 = .ok (.istore 8, 2) := by decide +kernel
theorem dL_areShares_58 : decode cL_areShares 58 = .ok (.iload 8, 2) := by decide +kernel
theorem dL_areShares_60 : decode cL_areShares 60 = .ok (.iconst 2, 1) := by decide +kernel
theorem dL_areShares_61 : decode cL_areShares 61 = .ok (.if_icmp .ge 223, 3) := by decide +kernel
theorem dL_areShares_64 : decode cL_areShares 64 = .ok (.iload 8, 2) := by decide +kernel
theorem dL_areShares_66 : decode cL_areShares 66 = .ok (.ifCond .ne 13, 3) := by decide +kernel
theorem dL_areShares_69 : decode cL_areShares 69 = .ok (.aload_n 0, 1) := by decide +kernel
theorem dL_areShares_70 : decode cL_areShares 70 = .ok (.iload 7, 2) := by decide +kernel
theorem dL_areShares_72 : decode cL_areShares 72 = .ok (.iconst 0, 1) := by decide +kernel
theorem dL_areShares_73 : decode cL_areShares 73 = .ok (.invokevirtual 112, 3) := by decide +kernel
theorem dL_areShares_76 : decode cL_areShares 76 = .ok (.goto 10, 3) := by decide +kernel
theorem dL_areShares_79 : decode cL_areShares 79 = .ok (.aload_n 0, 1) := by decide +kernel
theorem dL_areShares_80 : decode cL_areShares 80 = .ok (.iload 7, 2) := by decide +kernel
theorem dL_areShares_82 : decode cL_areShares 82 = .ok (.iconst 0, 1) := by decide +kernel
theorem dL_areShares_83 : decode cL_areShares 83 = .ok (.invokevirtual 116, 3) := by decide +kernel
theorem dL_areShares_86 : decode cL_areShares 86 = .ok (.lstore 9, 2) := by decide +kernel
theorem dL_areShares_88 : decode cL_areShares 88 = .ok (.iload 8, 2) := by decide +kernel
theorem dL_areShares_90 : decode cL_areShares 90 = .ok (.ifCond .ne 13, 3) := by decide +kernel
theorem dL_areShares_93 : decode cL_areShares 93 = .ok (.aload_n 0, 1) := by decide +kernel
theorem dL_areShares_94 : decode cL_areShares 94 = .ok (.iload 7, 2) := by decide +kernel
theorem dL_areShares_96 : decode cL_areShares 96 = .ok (.iconst 1, 1) := by decide +kernel
theorem dL_areShares_97 : decode cL_areShares 97 = .ok (.invokevirtual 112, 3) := by decide +kernel
theorem dL_areShares_100 : decode cL_areShares 100 = .ok (.goto 10, 3) := by decide +kernel
theorem dL_areShares_103 : decode cL_areShares 103 = .ok (.aload_n 0, 1) := by decide +kernel
theorem dL_areShares_104 : decode cL_areShares 104 = .ok (.iload 7, 2) := by decide +kernel
theorem dL_areShares_106 : decode cL_areShares 106 = .ok (.iconst 1, 1) := by decide +kernel
theorem dL_areShares_107 : decode cL_areShares 107 = .ok (.invokevirtual 116, 3) := by decide +kernel
theorem dL_areShares_110 : decode cL_areShares 110 = .ok (.lstore 11, 2) := by decide +kernel
theorem dL_areShares_112 : decode cL_areShares 112 = .ok (.lload 9, 2) := by decide +kernel
theorem dL_areShares_114 : decode cL_areShares 114 = .ok (.ldc2_w 119, 3) := by decide +kernel
theorem dL_areShares_117 : decode cL_areShares 117 = .ok (.lcmp, 1) := by decide +kernel
theorem dL_areShares_118 : decode cL_areShares 118 = .ok (.ifCond .eq 12, 3) := by decide +kernel
theorem dL_areShares_121 : decode cL_areShares 121 = .ok (.lload 11, 2) := by decide +kernel
theorem dL_areShares_123 : decode cL_areShares 123 = .ok (.ldc2_w 119, 3) := by decide +kernel
theorem dL_areShares_126 : decode cL_areShares 126 = .ok (.lcmp, 1) := by decide +kernel
theorem dL_areShares_127 : decode cL_areShares 127 = .ok (.ifCond .ne 19, 3) := by decide +kernel
theorem dL_areShares_130 : decode cL_areShares 130 = .ok (.lload 9, 2) := by decide +kernel
theorem dL_areShares_132 : decode cL_areShares 132 = .ok (.lload 11, 2) := by decide +kernel
theorem dL_areShares_134 : decode cL_areShares 134 = .ok (.lcmp, 1) := by decide +kernel
theorem dL_areShares_135 : decode cL_areShares 135 = .ok (.ifCond .eq 5, 3) := by decide +kernel
theorem dL_areShares_138 : decode cL_areShares 138 = .ok (.iconst 0, 1) := by decide +kernel
theorem dL_areShares_139 : decode cL_areShares 139 = .ok (.ireturn, 1) := by decide +kernel
theorem dL_areShares_140 : decode cL_areShares 140 = .ok (.lconst 0, 1) := by decide +kernel
theorem dL_areShares_141 : decode cL_areShares 141 = .ok (.lstore 4, 2) := by decide +kernel
theorem dL_areShares_143 : decode cL_areShares 143 = .ok (.goto 135, 3) := by decide +kernel
theorem dL_areShares_146 : decode cL_areShares 146 = .ok (.lload 9, 2) := by decide +kernel
theorem dL_areShares_148 : decode cL_areShares 148 = .ok (.lconst 0, 1) := by decide +kernel
theorem dL_areShares_149 : decode cL_areShares 149 = .ok (.lcmp, 1) := by decide +kernel
theorem dL_areShares_150 : decode cL_areShares 150 = .ok (.ifCond .lt 39, 3) := by decide +kernel
theorem dL_areShares_153 : decode cL_areShares 153 = .ok (.lload 11, 2) := by decide +kernel
theorem dL_areShares_155 : decode cL_areShares 155 = .ok (.lconst 1, 1) := by decide +kernel
theorem dL_areShares_156 : decode cL_areShares 156 = .ok (.lcmp, 1) := by decide +kernel
theorem dL_areShares_157 : decode cL_areShares 157 = .ok (.ifCond .lt 32, 3) := by decide +kernel
theorem dL_areShares_160 : decode cL_areShares 160 = .ok (.lload 9, 2) := by decide +kernel
theorem dL_areShares_162 : decode cL_areShares 162 = .ok (.lload 11, 2) := by decide +kernel
theorem dL_areShares_164 : decode cL_areShares 164 = .ok (.lcmp, 1) := by decide +kernel
theorem dL_areShares_165 : decode cL_areShares 165 = .ok (.ifCond .gt 24, 3) := by decide +kernel
theorem dL_areShares_168 : decode cL_areShares 168 = .ok (.lload 9, 2) := by decide +kernel
theorem dL_areShares_170 : decode cL_areShares 170 = .ok (.lload 11, 2) := by decide +kernel
theorem dL_areShares_172 : decode cL_areShares 172 = .ok (.invokestatic 95, 3) := by decide +kernel
theorem dL_areShares_175 : decode cL_areShares 175 = .ok (.lconst 1, 1) := by decide +kernel
theorem dL_areShares_176 : decode cL_areShares 176 = .ok (.lcmp, 1) := by decide +kernel
theorem dL_areShares_177 : decode cL_areShares 177 = .ok (.ifCond .ne 12, 3) := by decide +kernel
theorem dL_areShares_180 : decode cL_areShares 180 = .ok (.lload 11, 2) := by decide +kernel
theorem dL_areShares_182 : decode cL_areShares 182 = .ok (.ldc2_w 121, 3) := by decide +kernel
theorem dL_areShares_185 : decode cL_areShares 185 = .ok (.lcmp, 1) := by decide +kernel
theorem dL_areShares_186 : decode cL_areShares 186 = .ok (.ifCond .le 5, 3) := by decide +kernel
theorem dL_areShares_189 : decode cL_areShares 189 = .ok (.iconst 0, 1) := by decide +kernel
theorem dL_areShares_190 : decode cL_areShares 190 = .ok (.ireturn, 1) := by decide +kernel
theorem dL_areShares_191 : decode cL_areShares 191 = .ok (.lload 4, 2) := by decide +kernel
theorem dL_areShares_193 : decode cL_areShares 193 = .ok (.lconst 0, 1) := by decide +kernel
theorem dL_areShares_194 : decode cL_areShares 194 = .ok (.lcmp, 1) := by decide +kernel
theorem dL_areShares_195 : decode cL_areShares 195 = .ok (.ifCond .eq 21, 3) := by decide +kernel
theorem dL_areShares_198 : decode cL_areShares 198 = .ok (.lload 4, 2) := by decide +kernel
theorem dL_areShares_200 : decode cL_areShares 200 = .ok (.ldc2_w 123, 3) := by decide +kernel
theorem dL_areShares_203 : decode cL_areShares 203 = .ok (.lcmp, 1) := by decide +kernel
theorem dL_areShares_204 : decode cL_areShares 204 = .ok (.ifCond .gt 12, 3) := by decide +kernel
theorem dL_areShares_207 : decode cL_areShares 207 = .ok (.lload 11, 2) := by decide +kernel
theorem dL_areShares_209 : decode cL_areShares 209 = .ok (.ldc2_w 123, 3) := by decide +kernel
theorem dL_areShares_212 : decode cL_areShares 212 = .ok (.lcmp, 1) := by decide +kernel
theorem dL_areShares_213 : decode cL_areShares 213 = .ok (.ifCond .le 9, 3) := by decide +kernel
theorem dL_areShares_216 : decode cL_areShares 216 = .ok (.lconst 0, 1) := by decide +kernel
theorem dL_areShares_217 : decode cL_areShares 217 = .ok (.lstore 4, 2) := by decide +kernel
theorem dL_areShares_219 : decode cL_areShares 219 = .ok (.goto 59, 3) := by decide +kernel
theorem dL_areShares_222 : decode cL_areShares 222 = .ok (.lload 4, 2) := by decide +kernel
theorem dL_areShares_224 : decode cL_areShares 224 = .ok (.lload 11, 2) := by decide +kernel
theorem dL_areShares_226 : decode cL_areShares 226 = .ok (.invokestatic 95, 3) := by decide +kernel
theorem dL_areShares_229 : decode cL_areShares 229 = .ok (.lstore 13, 2) := by decide +kernel
theorem dL_areShares_231 : decode cL_areShares 231 = .ok (.lload_n 2, 1) := by decide +kernel
theorem dL_areShares_232 : decode cL_areShares 232 = .ok (.lload 11, 2) := by decide +kernel
theorem dL_areShares_234 : decode cL_areShares 234 = .ok (.lload 13, 2) := by decide +kernel
theorem dL_areShares_236 : decode cL_areShares 236 = .ok (.ldiv, 1) := by decide +kernel
theorem dL_areShares_237 : decode cL_areShares 237 = .ok (.lmul, 1) := by decide +kernel
theorem dL_areShares_238 : decode cL_areShares 238 = .ok (.lload 9, 2) := by decide +kernel
theorem dL_areShares_240 : decode cL_areShares 240 = .ok (.lload 4, 2) := by decide +kernel
theorem dL_areShares_242 : decode cL_areShares 242 = .ok (.lload 13, 2) := by decide +kernel
theorem dL_areShares_244 : decode cL_areShares 244 = .ok (.ldiv, 1) := by decide +kernel
theorem dL_areShares_245 : decode cL_areShares 245 = .ok (.lmul, 1) := by decide +kernel
theorem dL_areShares_246 : decode cL_areShares 246 = .ok (.ladd, 1) := by decide +kernel
theorem dL_areShares_247 : decode cL_areShares 247 = .ok (.lstore_n 2, 1) := by decide +kernel
theorem dL_areShares_248 : decode cL_areShares 248 = .ok (.lload 4, 2) := by decide +kernel
theorem dL_areShares_250 : decode cL_areShares 250 = .ok (.lload 13, 2) := by decide +kernel
theorem dL_areShares_252 : decode cL_areShares 252 = .ok (.ldiv, 1) := by decide +kernel
theorem dL_areShares_253 : decode cL_areShares 253 = .ok (.lload 11, 2) := by decide +kernel
theorem dL_areShares_255 : decode cL_areShares 255 = .ok (.lmul, 1) := by decide +kernel
theorem dL_areShares_256 : decode cL_areShares 256 = .ok (.lstore 4, 2) := by decide +kernel
theorem dL_areShares_258 : decode cL_areShares 258 = .ok (.lload_n 2, 1) := by decide +kernel
theorem dL_areShares_259 : decode cL_areShares 259 = .ok (.lload 4, 2) := by decide +kernel
theorem dL_areShares_261 : decode cL_areShares 261 = .ok (.invokestatic 95, 3) := by decide +kernel
theorem dL_areShares_264 : decode cL_areShares 264 = .ok (.lstore 13, 2) := by decide +kernel
theorem dL_areShares_266 : decode cL_areShares 266 = .ok (.lload_n 2, 1) := by decide +kernel
theorem dL_areShares_267 : decode cL_areShares 267 = .ok (.lload 13, 2) := by decide +kernel
theorem dL_areShares_269 : decode cL_areShares 269 = .ok (.ldiv, 1) := by decide +kernel
theorem dL_areShares_270 : decode cL_areShares 270 = .ok (.lstore_n 2, 1) := by decide +kernel
theorem dL_areShares_271 : decode cL_areShares 271 = .ok (.lload 4, 2) := by decide +kernel
theorem dL_areShares_273 : decode cL_areShares 273 = .ok (.lload 13, 2) := by decide +kernel
theorem dL_areShares_275 : decode cL_areShares 275 = .ok (.ldiv, 1) := by decide +kernel
theorem dL_areShares_276 : decode cL_areShares 276 = .ok (.lstore 4, 2) := by decide +kernel
theorem dL_areShares_278 : decode cL_areShares 278 = .ok (.iinc 8 1, 3) := by decide +kernel
theorem dL_areShares_281 : decode cL_areShares 281 = .ok (.goto (-223), 3) := by decide +kernel
theorem dL_areShares_284 : decode cL_areShares 284 = .ok (.iinc 7 1, 3) := by decide +kernel
theorem dL_areShares_287 : decode cL_areShares 287 = .ok (.goto (-270), 3) := by decide +kernel
theorem dL_areShares_290 : decode cL_areShares 290 = .ok (.iload_n 1, 1) := by decide +kernel
theorem dL_areShares_291 : decode cL_areShares 291 = .ok (.ifCond .eq 32, 3) := by decide +kernel
theorem dL_areShares_294 : decode cL_areShares 294 = .ok (.lload 4, 2) := by decide +kernel
theorem dL_areShares_296 : decode cL_areShares 296 = .ok (.lconst 0, 1) := by decide +kernel
theorem dL_areShares_297 : decode cL_areShares 297 = .ok (.lcmp, 1) := by decide +kernel
theorem dL_areShares_298 : decode cL_areShares 298 = .ok (.ifCond .eq 25, 3) := by decide +kernel
theorem dL_areShares_301 : decode cL_areShares 301 = .ok (.iload 6, 2) := by decide +kernel
theorem dL_areShares_303 : decode cL_areShares 303 = .ok (.ifCond .eq 13, 3) := by decide +kernel
theorem dL_areShares_306 : decode cL_areShares 306 = .ok (.lload_n 2, 1) := by decide +kernel
theorem dL_areShares_307 : decode cL_areShares 307 = .ok (.lload 4, 2) := by decide +kernel
theorem dL_areShares_309 : decode cL_areShares 309 = .ok (.lcmp, 1) := by decide +kernel
theorem dL_areShares_310 : decode cL_areShares 310 = .ok (.ifCond .gt 17, 3) := by decide +kernel
theorem dL_areShares_313 : decode cL_areShares 313 = .ok (.goto 10, 3) := by decide +kernel
theorem dL_areShares_316 : decode cL_areShares 316 = .ok (.lload_n 2, 1) := by decide +kernel
theorem dL_areShares_317 : decode cL_areShares 317 = .ok (.lload 4, 2) := by decide +kernel
theorem dL_areShares_319 : decode cL_areShares 319 = .ok (.lcmp, 1) := by decide +kernel
theorem dL_areShares_320 : decode cL_areShares 320 = .ok (.ifCond .ne 7, 3) := by decide +kernel
theorem dL_areShares_323 : decode cL_areShares 323 = .ok (.iconst 1, 1) := by decide +kernel
theorem dL_areShares_324 : decode cL_areShares 324 = .ok (.goto 4, 3) := by decide +kernel
theorem dL_areShares_327 : decode cL_areShares 327 = .ok (.iconst 0, 1) := by decide +kernel
theorem dL_areShares_328 : decode cL_areShares 328 = .ok (.ireturn, 1) := by decide +kernel
