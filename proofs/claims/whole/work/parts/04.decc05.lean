theorem dX11_thrown_0 : decode cX11_thrown 0 = .ok (.aload_n 0, 1) := by decide +kernel
theorem dX11_thrown_1 : decode cX11_thrown 1 = .ok (.getfield 3, 3) := by decide +kernel
theorem dX11_thrown_4 : decode cX11_thrown 4 = .ok (.ireturn, 1) := by decide +kernel
theorem dX11_refuse_0 : decode cX11_refuse 0 = .ok (.aload_n 0, 1) := by decide +kernel
theorem dX11_refuse_1 : decode cX11_refuse 1 = .ok (.iconst 1, 1) := by decide +kernel
theorem dX11_refuse_2 : decode cX11_refuse 2 = .ok (.putfield 3, 3) := by decide +kernel
theorem dX11_refuse_5 : decode cX11_refuse 5 = .ok (.iconst 0, 1) := by decide +kernel
theorem dX11_refuse_6 : decode cX11_refuse 6 = .ok (.ireturn, 1) := by decide +kernel
theorem dX11_in_0 : decode cX11_in 0 = .ok (.lload_n 0, 1) := by decide +kernel
theorem dX11_in_1 : decode cX11_in 1 = .ok (.lload_n 2, 1) := by decide +kernel
theorem dX11_in_2 : decode cX11_in 2 = .ok (.lcmp, 1) := by decide +kernel
theorem dX11_in_3 : decode cX11_in 3 = .ok (.ifCond .lt 14, 3) := by decide +kernel
theorem dX11_in_6 : decode cX11_in 6 = .ok (.lload_n 0, 1) := by decide +kernel
theorem dX11_in_7 : decode cX11_in 7 = .ok (.lload 4, 2) := by decide +kernel
theorem dX11_in_9 : decode cX11_in 9 = .ok (.lcmp, 1) := by decide +kernel
theorem dX11_in_10 : decode cX11_in 10 = .ok (.ifCond .gt 7, 3) := by decide +kernel
theorem dX11_in_13 : decode cX11_in 13 = .ok (.iconst 1, 1) := by decide +kernel
theorem dX11_in_14 : decode cX11_in 14 = .ok (.goto 4, 3) := by decide +kernel
theorem dX11_in_17 : decode cX11_in 17 = .ok (.iconst 0, 1) := by decide +kernel
theorem dX11_in_18 : decode cX11_in 18 = .ok (.ireturn, 1) := by decide +kernel
theorem dX11_has_0 : decode cX11_has 0 = .ok (.iload_n 0, 1) := by decide +kernel
theorem dX11_has_1 : decode cX11_has 1 = .ok (.iload_n 1, 1) := by decide +kernel
theorem dX11_has_2 : decode cX11_has 2 = .ok (.ishr, 1) := by decide +kernel
theorem dX11_has_3 : decode cX11_has 3 = .ok (.iconst 1, 1) := by decide +kernel
theorem dX11_has_4 : decode cX11_has 4 = .ok (.iand, 1) := by decide +kernel
theorem dX11_has_5 : decode cX11_has 5 = .ok (.iconst 1, 1) := by decide +kernel
theorem dX11_has_6 : decode cX11_has 6 = .ok (.if_icmp .ne 7, 3) := by decide +kernel
theorem dX11_has_9 : decode cX11_has 9 = .ok (.iconst 1, 1) := by decide +kernel
theorem dX11_has_10 : decode cX11_has 10 = .ok (.goto 4, 3) := by decide +kernel
theorem dX11_has_13 : decode cX11_has 13 = .ok (.iconst 0, 1) := by decide +kernel
theorem dX11_has_14 : decode cX11_has 14 = .ok (.ireturn, 1) := by decide +kernel
theorem dX11_flag_0 : decode cX11_flag 0 = .ok (.iload_n 0, 1) := by decide +kernel
theorem dX11_flag_1 : decode cX11_flag 1 = .ok (.ifCond .eq 7, 3) := by decide +kernel
theorem dX11_flag_4 : decode cX11_flag 4 = .ok (.iconst 1, 1) := by decide +kernel
theorem dX11_flag_5 : decode cX11_flag 5 = .ok (.goto 4, 3) := by decide +kernel
theorem dX11_flag_8 : decode cX11_flag 8 = .ok (.iconst 0, 1) := by decide +kernel
theorem dX11_flag_9 : decode cX11_flag 9 = .ok (.ireturn, 1) := by decide +kernel
theorem dX11_common_0 : decode cX11_common 0 = .ok (.lload_n 2, 1) := by decide +kernel
theorem dX11_common_1 : decode cX11_common 1 = .ok (.lconst 0, 1) := by decide +kernel
theorem dX11_common_2 : decode cX11_common 2 = .ok (.lcmp, 1) := by decide +kernel
theorem dX11_common_3 : decode cX11_common 3 = .ok (.ifCond .ne 7, 3) := by decide +kernel
theorem dX11_common_6 : decode cX11_common 6 = .ok (.lload_n 0, 1) := by decide +kernel
theorem dX11_common_7 : decode cX11_common 7 = .ok (.goto 10, 3) := by decide +kernel
theorem dX11_common_10 : decode cX11_common 10 = .ok (.lload_n 2, 1) := by decide +kernel
theorem dX11_common_11 : decode cX11_common 11 = .ok (.lload_n 0, 1) := by decide +kernel
theorem dX11_common_12 : decode cX11_common 12 = .ok (.lload_n 2, 1) := by decide +kernel
theorem dX11_common_13 : decode cX11_common 13 = .ok (.lrem, 1) := by decide +kernel
theorem dX11_common_14 : decode cX11_common 14 = .ok (.invokestatic 7, 3) := by decide +kernel
theorem dX11_common_17 : decode cX11_common 17 = .ok (.lreturn, 1) := by decide +kernel
theorem dX11_enters_0 : decode cX11_enters 0 = .ok (.aload_n 0, 1) := by decide +kernel
theorem dX11_enters_1 : decode cX11_enters 1 = .ok (.getfield 11, 3) := by decide +kernel
theorem dX11_enters_4 : decode cX11_enters 4 = .ok (.aload_n 0, 1) := by decide +kernel
theorem dX11_enters_5 : decode cX11_enters 5 = .ok (.getfield 15, 3) := by decide +kernel
theorem dX11_enters_8 : decode cX11_enters 8 = .ok (.lload_n 1, 1) := by decide +kernel
theorem dX11_enters_9 : decode cX11_enters 9 = .ok (.lastore, 1) := by decide +kernel
theorem dX11_enters_10 : decode cX11_enters 10 = .ok (.aload_n 0, 1) := by decide +kernel
theorem dX11_enters_11 : decode cX11_enters 11 = .ok (.dup, 1) := by decide +kernel
theorem dX11_enters_12 : decode cX11_enters 12 = .ok (.getfield 15, 3) := by decide +kernel
theorem dX11_enters_15 : decode cX11_enters 15 = .ok (.iconst 1, 1) := by decide +kernel
theorem dX11_enters_16 : decode cX11_enters 16 = .ok (.iadd, 1) := by decide +kernel
theorem dX11_enters_17 : decode cX11_enters 17 = .ok (.putfield 15, 3) := by decide +kernel
theorem dX11_enters_20 : decode cX11_enters 20 = .ok (.return_, 1) := by decide +kernel
theorem dX11_init_0 : decode cX11_init 0 = .ok (.aload_n 0, 1) := by decide +kernel
theorem dX11_init_1 : decode cX11_init 1 = .ok (.invokespecial 18, 3) := by decide +kernel
theorem dX11_init_4 : decode cX11_init 4 = .ok (.aload_n 0, 1) := by decide +kernel
theorem dX11_init_5 : decode cX11_init 5 = .ok (.bipush 24, 2) := by decide +kernel
theorem dX11_init_7 : decode cX11_init 7 = .ok (.newarray .long, 2) := by decide +kernel
theorem dX11_init_9 : decode cX11_init 9 = .ok (.putfield 11, 3) := by decide +kernel
theorem dX11_init_12 : decode cX11_init 12 = .ok (.aload_n 0, 1) := by decide +kernel
theorem dX11_init_13 : decode cX11_init 13 = .ok (.bipush 12, 2) := by decide +kernel
theorem dX11_init_15 : decode cX11_init 15 = .ok (.newarray .int, 2) := by decide +kernel
theorem dX11_init_17 : decode cX11_init 17 = .ok (.putfield 24, 3) := by decide +kernel
theorem dX11_init_20 : decode cX11_init 20 = .ok (.aload_n 0, 1) := by decide +kernel
theorem dX11_init_21 : decode cX11_init 21 = .ok (.bipush 12, 2) := by decide +kernel
theorem dX11_init_23 : decode cX11_init 23 = .ok (.newarray .int, 2) := by decide +kernel
theorem dX11_init_25 : decode cX11_init 25 = .ok (.putfield 28, 3) := by decide +kernel
theorem dX11_init_28 : decode cX11_init 28 = .ok (.aload_n 0, 1) := by decide +kernel
theorem dX11_init_29 : decode cX11_init 29 = .ok (.bipush 39, 2) := by decide +kernel
theorem dX11_init_31 : decode cX11_init 31 = .ok (.newarray .int, 2) := by decide +kernel
theorem dX11_init_33 : decode cX11_init 33 = .ok (.putfield 31, 3) := by decide +kernel
theorem dX11_init_36 : decode cX11_init 36 = .ok (.aload_n 0, 1) := by decide +kernel
theorem dX11_init_37 : decode cX11_init 37 = .ok (.bipush 39, 2) := by decide +kernel
theorem dX11_init_39 : decode cX11_init 39 = .ok (.newarray .int, 2) := by decide +kernel
theorem dX11_init_41 : decode cX11_init 41 = .ok (.putfield 34, 3) := by decide +kernel
theorem dX11_init_44 : decode cX11_init 44 = .ok (.aload_n 0, 1) := by decide +kernel
theorem dX11_init_45 : decode cX11_init 45 = .ok (.bipush 80, 2) := by decide +kernel
theorem dX11_init_47 : decode cX11_init 47 = .ok (.newarray .int, 2) := by decide +kernel
theorem dX11_init_49 : decode cX11_init 49 = .ok (.putfield 37, 3) := by decide +kernel
theorem dX11_init_52 : decode cX11_init 52 = .ok (.aload_n 0, 1) := by decide +kernel
theorem dX11_init_53 : decode cX11_init 53 = .ok (.bipush 48, 2) := by decide +kernel
theorem dX11_init_55 : decode cX11_init 55 = .ok (.newarray .int, 2) := by decide +kernel
theorem dX11_init_57 : decode cX11_init 57 = .ok (.putfield 40, 3) := by decide +kernel
theorem dX11_init_60 : decode cX11_init 60 = .ok (.aload_n 0, 1) := by decide +kernel
theorem dX11_init_61 : decode cX11_init 61 = .ok (.bipush 80, 2) := by decide +kernel
theorem dX11_init_63 : decode cX11_init 63 = .ok (.newarray .int, 2) := by decide +kernel
theorem dX11_init_65 : decode cX11_init 65 = .ok (.putfield 43, 3) := by decide +kernel
theorem dX11_init_68 : decode cX11_init 68 = .ok (.aload_n 0, 1) := by decide +kernel
theorem dX11_init_69 : decode cX11_init 69 = .ok (.bipush 80, 2) := by decide +kernel
theorem dX11_init_71 : decode cX11_init 71 = .ok (.newarray .int, 2) := by decide +kernel
theorem dX11_init_73 : decode cX11_init 73 = .ok (.putfield 46, 3) := by decide +kernel
theorem dX11_init_76 : decode cX11_init 76 = .ok (.aload_n 0, 1) := by decide +kernel
theorem dX11_init_77 : decode cX11_init 77 = .ok (.bipush 80, 2) := by decide +kernel
theorem dX11_init_79 : decode cX11_init 79 = .ok (.newarray .int, 2) := by decide +kernel
theorem dX11_init_81 : decode cX11_init 81 = .ok (.putfield 49, 3) := by decide +kernel
theorem dX11_init_84 : decode cX11_init 84 = .ok (.aload_n 0, 1) := by decide +kernel
theorem dX11_init_85 : decode cX11_init 85 = .ok (.bipush 7, 2) := by decide +kernel
theorem dX11_init_87 : decode cX11_init 87 = .ok (.newarray .int, 2) := by decide +kernel
theorem dX11_init_89 : decode cX11_init 89 = .ok (.putfield 52, 3) := by decide +kernel
theorem dX11_init_92 : decode cX11_init 92 = .ok (.aload_n 0, 1) := by decide +kernel
theorem dX11_init_93 : decode cX11_init 93 = .ok (.bipush 12, 2) := by decide +kernel
theorem dX11_init_95 : decode cX11_init 95 = .ok (.newarray .int, 2) := by decide +kernel
theorem dX11_init_97 : decode cX11_init 97 = .ok (.putfield 55, 3) := by decide +kernel
theorem dX11_init_100 : decode cX11_init 100 = .ok (.aload_n 0, 1) := by decide +kernel
theorem dX11_init_101 : decode cX11_init 101 = .ok (.bipush 12, 2) := by decide +kernel
theorem dX11_init_103 : decode cX11_init 103 = .ok (.newarray .boolean, 2) := by decide +kernel
theorem dX11_init_105 : decode cX11_init 105 = .ok (.putfield 58, 3) := by decide +kernel
theorem dX11_init_108 : decode cX11_init 108 = .ok (.aload_n 0, 1) := by decide +kernel
theorem dX11_init_109 : decode cX11_init 109 = .ok (.bipush 64, 2) := by decide +kernel
theorem dX11_init_111 : decode cX11_init 111 = .ok (.newarray .int, 2) := by decide +kernel
theorem dX11_init_113 : decode cX11_init 113 = .ok (.putfield 62, 3) := by decide +kernel
theorem dX11_init_116 : decode cX11_init 116 = .ok (.aload_n 0, 1) := by decide +kernel
theorem dX11_init_117 : decode cX11_init 117 = .ok (.sipush 624, 3) := by decide +kernel
theorem dX11_init_120 : decode cX11_init 120 = .ok (.newarray .int, 2) := by decide +kernel
theorem dX11_init_122 : decode cX11_init 122 = .ok (.putfield 65, 3) := by decide +kernel
theorem dX11_init_125 : decode cX11_init 125 = .ok (.aload_n 0, 1) := by decide +kernel
theorem dX11_init_126 : decode cX11_init 126 = .ok (.bipush 6, 2) := by decide +kernel
theorem dX11_init_128 : decode cX11_init 128 = .ok (.newarray .int, 2) := by decide +kernel
theorem dX11_init_130 : decode cX11_init 130 = .ok (.putfield 68, 3) := by decide +kernel
theorem dX11_init_133 : decode cX11_init 133 = .ok (.aload_n 0, 1) := by decide +kernel
theorem dX11_init_134 : decode cX11_init 134 = .ok (.bipush 60, 2) := by decide +kernel
theorem dX11_init_136 : decode cX11_init 136 = .ok (.newarray .int, 2) := by decide +kernel
theorem dX11_init_138 : decode cX11_init 138 = .ok (.putfield 71, 3) := by decide +kernel
theorem dX11_init_141 : decode cX11_init 141 = .ok (.aload_n 0, 1) := by decide +kernel
theorem dX11_init_142 : decode cX11_init 142 = .ok (.bipush 60, 2) := by decide +kernel
theorem dX11_init_144 : decode cX11_init 144 = .ok (.newarray .int, 2) := by decide +kernel
theorem dX11_init_146 : decode cX11_init 146 = .ok (.putfield 74, 3) := by decide +kernel
theorem dX11_init_149 : decode cX11_init 149 = .ok (.aload_n 0, 1) := by decide +kernel
theorem dX11_init_150 : decode cX11_init 150 = .ok (.bipush 60, 2) := by decide +kernel
theorem dX11_init_152 : decode cX11_init 152 = .ok (.newarray .int, 2) := by decide +kernel
theorem dX11_init_154 : decode cX11_init 154 = .ok (.putfield 77, 3) := by decide +kernel
theorem dX11_init_157 : decode cX11_init 157 = .ok (.aload_n 0, 1) := by decide +kernel
theorem dX11_init_158 : decode cX11_init 158 = .ok (.bipush 60, 2) := by decide +kernel
theorem dX11_init_160 : decode cX11_init 160 = .ok (.newarray .int, 2) := by decide +kernel
theorem dX11_init_162 : decode cX11_init 162 = .ok (.putfield 80, 3) := by decide +kernel
theorem dX11_init_165 : decode cX11_init 165 = .ok (.aload_n 0, 1) := by decide +kernel
theorem dX11_init_166 : decode cX11_init 166 = .ok (.bipush 6, 2) := by decide +kernel
theorem dX11_init_168 : decode cX11_init 168 = .ok (.newarray .int, 2) := by decide +kernel
theorem dX11_init_170 : decode cX11_init 170 = .ok (.putfield 83, 3) := by decide +kernel
theorem dX11_init_173 : decode cX11_init 173 = .ok (.aload_n 0, 1) := by decide +kernel
theorem dX11_init_174 : decode cX11_init 174 = .ok (.bipush 8, 2) := by decide +kernel
theorem dX11_init_176 : decode cX11_init 176 = .ok (.newarray .int, 2) := by decide +kernel
theorem dX11_init_178 : decode cX11_init 178 = .ok (.putfield 86, 3) := by decide +kernel
theorem dX11_init_181 : decode cX11_init 181 = .ok (.aload_n 0, 1) := by decide +kernel
theorem dX11_init_182 : decode cX11_init 182 = .ok (.sipush 2048, 3) := by decide +kernel
theorem dX11_init_185 : decode cX11_init 185 = .ok (.newarray .int, 2) := by decide +kernel
theorem dX11_init_187 : decode cX11_init 187 = .ok (.putfield 89, 3) := by decide +kernel
theorem dX11_init_190 : decode cX11_init 190 = .ok (.aload_n 0, 1) := by decide +kernel
theorem dX11_init_191 : decode cX11_init 191 = .ok (.bipush 12, 2) := by decide +kernel
theorem dX11_init_193 : decode cX11_init 193 = .ok (.newarray .int, 2) := by decide +kernel
theorem dX11_init_195 : decode cX11_init 195 = .ok (.putfield 92, 3) := by decide +kernel
theorem dX11_init_198 : decode cX11_init 198 = .ok (.aload_n 0, 1) := by decide +kernel
theorem dX11_init_199 : decode cX11_init 199 = .ok (.bipush 12, 2) := by decide +kernel
theorem dX11_init_201 : decode cX11_init 201 = .ok (.newarray .int, 2) := by decide +kernel
theorem dX11_init_203 : decode cX11_init 203 = .ok (.putfield 95, 3) := by decide +kernel
theorem dX11_init_206 : decode cX11_init 206 = .ok (.aload_n 0, 1) := by decide +kernel
theorem dX11_init_207 : decode cX11_init 207 = .ok (.bipush 10, 2) := by decide +kernel
theorem dX11_init_209 : decode cX11_init 209 = .ok (.newarray .int, 2) := by decide +kernel
theorem dX11_init_211 : decode cX11_init 211 = .ok (.putfield 98, 3) := by decide +kernel
theorem dX11_init_214 : decode cX11_init 214 = .ok (.aload_n 0, 1) := by decide +kernel
theorem dX11_init_215 : decode cX11_init 215 = .ok (.bipush 10, 2) := by decide +kernel
theorem dX11_init_217 : decode cX11_init 217 = .ok (.newarray .int, 2) := by decide +kernel
theorem dX11_init_219 : decode cX11_init 219 = .ok (.putfield 101, 3) := by decide +kernel
theorem dX11_init_222 : decode cX11_init 222 = .ok (.aload_n 0, 1) := by decide +kernel
theorem dX11_init_223 : decode cX11_init 223 = .ok (.bipush 10, 2) := by decide +kernel
theorem dX11_init_225 : decode cX11_init 225 = .ok (.newarray .int, 2) := by decide +kernel
theorem dX11_init_227 : decode cX11_init 227 = .ok (.putfield 104, 3) := by decide +kernel
theorem dX11_init_230 : decode cX11_init 230 = .ok (.aload_n 0, 1) := by decide +kernel
theorem dX11_init_231 : decode cX11_init 231 = .ok (.bipush 8, 2) := by decide +kernel
theorem dX11_init_233 : decode cX11_init 233 = .ok (.newarray .long, 2) := by decide +kernel
theorem dX11_init_235 : decode cX11_init 235 = .ok (.putfield 107, 3) := by decide +kernel
theorem dX11_init_238 : decode cX11_init 238 = .ok (.aload_n 0, 1) := by decide +kernel
theorem dX11_init_239 : decode cX11_init 239 = .ok (.bipush 8, 2) := by decide +kernel
theorem dX11_init_241 : decode cX11_init 241 = .ok (.newarray .long, 2) := by decide +kernel
theorem dX11_init_243 : decode cX11_init 243 = .ok (.putfield 110, 3) := by decide +kernel
theorem dX11_init_246 : decode cX11_init 246 = .ok (.aload_n 0, 1) := by decide +kernel
theorem dX11_init_247 : decode cX11_init 247 = .ok (.sipush 610, 3) := by decide +kernel
theorem dX11_init_250 : decode cX11_init 250 = .ok (.newarray .int, 2) := by decide +kernel
theorem dX11_init_252 : decode cX11_init 252 = .ok (.putfield 113, 3) := by decide +kernel
theorem dX11_init_255 : decode cX11_init 255 = .ok (.aload_n 0, 1) := by decide +kernel
theorem dX11_init_256 : decode cX11_init 256 = .ok (.bipush 80, 2) := by decide +kernel
theorem dX11_init_258 : decode cX11_init 258 = .ok (.newarray .int, 2) := by decide +kernel
theorem dX11_init_260 : decode cX11_init 260 = .ok (.putfield 116, 3) := by decide +kernel
theorem dX11_init_263 : decode cX11_init 263 = .ok (.aload_n 0, 1) := by decide +kernel
theorem dX11_init_264 : decode cX11_init 264 = .ok (.iconst 3, 1) := by decide +kernel
theorem dX11_init_265 : decode cX11_init 265 = .ok (.newarray .boolean, 2) := by decide +kernel
theorem dX11_init_267 : decode cX11_init 267 = .ok (.putfield 119, 3) := by decide +kernel
theorem dX11_init_270 : decode cX11_init 270 = .ok (.aload_n 0, 1) := by decide +kernel
theorem dX11_init_271 : decode cX11_init 271 = .ok (.iconst 3, 1) := by decide +kernel
theorem dX11_init_272 : decode cX11_init 272 = .ok (.newarray .int, 2) := by decide +kernel
theorem dX11_init_274 : decode cX11_init 274 = .ok (.putfield 122, 3) := by decide +kernel
theorem dX11_init_277 : decode cX11_init 277 = .ok (.aload_n 0, 1) := by decide +kernel
theorem dX11_init_278 : decode cX11_init 278 = .ok (.bipush 117, 2) := by decide +kernel
theorem dX11_init_280 : decode cX11_init 280 = .ok (.newarray .int, 2) := by decide +kernel
theorem dX11_init_282 : decode cX11_init 282 = .ok (.putfield 125, 3) := by decide +kernel
theorem dX11_init_285 : decode cX11_init 285 = .ok (.return_, 1) := by decide +kernel
theorem dX11_isPassage_0 : decode cX11_isPassage 0 = .ok (.iload_n 1, 1) := by decide +kernel
theorem dX11_isPassage_1 : decode cX11_isPassage 1 = .ok (.i2l, 1) := by decide +kernel
theorem dX11_isPassage_2 : decode cX11_isPassage 2 = .ok (.lconst 0, 1) := by decide +kernel
theorem dX11_isPassage_3 : decode cX11_isPassage 3 = .ok (.aload_n 0, 1) := by decide +kernel
theorem dX11_isPassage_4 : decode cX11_isPassage 4 = .ok (.getfield 128, 3) := by decide +kernel
theorem dX11_isPassage_7 : decode cX11_isPassage 7 = .ok (.iconst 1, 1) := by decide +kernel
theorem dX11_isPassage_8 : decode cX11_isPassage 8 = .ok (.isub, 1) := by decide +kernel
theorem dX11_isPassage_9 : decode cX11_isPassage 9 = .ok (.i2l, 1) := by decide +kernel
theorem dX11_isPassage_10 : decode cX11_isPassage 10 = .ok (.invokestatic 131, 3) := by decide +kernel
theorem dX11_isPassage_13 : decode cX11_isPassage 13 = .ok (.ireturn, 1) := by decide +kernel
theorem dX11_isCavern_0 : decode cX11_isCavern 0 = .ok (.iload_n 0, 1) := by decide +kernel
theorem dX11_isCavern_1 : decode cX11_isCavern 1 = .ok (.i2l, 1) := by decide +kernel
theorem dX11_isCavern_2 : decode cX11_isCavern 2 = .ok (.lconst 0, 1) := by decide +kernel
theorem dX11_isCavern_3 : decode cX11_isCavern 3 = .ok (.ldc2_w 135, 3) := by decide +kernel
theorem dX11_isCavern_6 : decode cX11_isCavern 6 = .ok (.invokestatic 131, 3) := by decide +kernel
theorem dX11_isCavern_9 : decode cX11_isCavern 9 = .ok (.ireturn, 1) := by decide +kernel
theorem dX11_isEnd_0 : decode cX11_isEnd 0 = .ok (.aload_n 0, 1) := by decide +kernel
theorem dX11_isEnd_1 : decode cX11_isEnd 1 = .ok (.getfield 24, 3) := by decide +kernel
theorem dX11_isEnd_4 : decode cX11_isEnd 4 = .ok (.iload_n 1, 1) := by decide +kernel
theorem dX11_isEnd_5 : decode cX11_isEnd 5 = .ok (.iaload, 1) := by decide +kernel
theorem dX11_isEnd_6 : decode cX11_isEnd 6 = .ok (.iload_n 2, 1) := by decide +kernel
theorem dX11_isEnd_7 : decode cX11_isEnd 7 = .ok (.if_icmp .eq 13, 3) := by decide +kernel
theorem dX11_isEnd_10 : decode cX11_isEnd 10 = .ok (.aload_n 0, 1) := by decide +kernel
theorem dX11_isEnd_11 : decode cX11_isEnd 11 = .ok (.getfield 28, 3) := by decide +kernel
theorem dX11_isEnd_14 : decode cX11_isEnd 14 = .ok (.iload_n 1, 1) := by decide +kernel
theorem dX11_isEnd_15 : decode cX11_isEnd 15 = .ok (.iaload, 1) := by decide +kernel
theorem dX11_isEnd_16 : decode cX11_isEnd 16 = .ok (.iload_n 2, 1) := by decide +kernel
theorem dX11_isEnd_17 : decode cX11_isEnd 17 = .ok (.if_icmp .ne 7, 3) := by decide +kernel
theorem dX11_isEnd_20 : decode cX11_isEnd 20 = .ok (.iconst 1, 1) := by decide +kernel
theorem dX11_isEnd_21 : decode cX11_isEnd 21 = .ok (.goto 4, 3) := by decide +kernel
theorem dX11_isEnd_24 : decode cX11_isEnd 24 = .ok (.iconst 0, 1) := by decide +kernel
theorem dX11_isEnd_25 : decode cX11_isEnd 25 = .ok (.ireturn, 1) := by decide +kernel
theorem dX11_beyond_0 : decode cX11_beyond 0 = .ok (.aload_n 0, 1) := by decide +kernel
theorem dX11_beyond_1 : decode cX11_beyond 1 = .ok (.getfield 24, 3) := by decide +kernel
theorem dX11_beyond_4 : decode cX11_beyond 4 = .ok (.iload_n 1, 1) := by decide +kernel
theorem dX11_beyond_5 : decode cX11_beyond 5 = .ok (.iaload, 1) := by decide +kernel
theorem dX11_beyond_6 : decode cX11_beyond 6 = .ok (.iload_n 2, 1) := by decide +kernel
theorem dX11_beyond_7 : decode cX11_beyond 7 = .ok (.if_icmp .ne 12, 3) := by decide +kernel
theorem dX11_beyond_10 : decode cX11_beyond 10 = .ok (.aload_n 0, 1) := by decide +kernel
theorem dX11_beyond_11 : decode cX11_beyond 11 = .ok (.getfield 28, 3) := by decide +kernel
theorem dX11_beyond_14 : decode cX11_beyond 14 = .ok (.iload_n 1, 1) := by decide +kernel
theorem dX11_beyond_15 : decode cX11_beyond 15 = .ok (.iaload, 1) := by decide +kernel
theorem dX11_beyond_16 : decode cX11_beyond 16 = .ok (.goto 9, 3) := by decide +kernel
theorem dX11_beyond_19 : decode cX11_beyond 19 = .ok (.aload_n 0, 1) := by decide +kernel
theorem dX11_beyond_20 : decode cX11_beyond 20 = .ok (.getfield 24, 3) := by decide +kernel
theorem dX11_beyond_23 : decode cX11_beyond 23 = .ok (.iload_n 1, 1) := by decide +kernel
theorem dX11_beyond_24 : decode cX11_beyond 24 = .ok (.iaload, 1) := by decide +kernel
theorem dX11_beyond_25 : decode cX11_beyond 25 = .ok (.ireturn, 1) := by decide +kernel
theorem dX11_sumOf_0 : decode cX11_sumOf 0 = .ok (.iconst 0, 1) := by decide +kernel
theorem dX11_sumOf_1 : decode cX11_sumOf 1 = .ok (.istore_n 3, 1) := by decide +kernel
theorem dX11_sumOf_2 : decode cX11_sumOf 2 = .ok (.iconst 0, 1) := by decide +kernel
theorem dX11_sumOf_3 : decode cX11_sumOf 3 = .ok (.istore 4, 2) := by decide +kernel
theorem dX11_sumOf_5 : decode cX11_sumOf 5 = .ok (.iload 4, 2) := by decide +kernel
theorem dX11_sumOf_7 : decode cX11_sumOf 7 = .ok (.aload_n 0, 1) := by decide +kernel
theorem dX11_sumOf_8 : decode cX11_sumOf 8 = .ok (.getfield 128, 3) := by decide +kernel
theorem dX11_sumOf_11 : decode cX11_sumOf 11 = .ok (.if_icmp .ge 18, 3) := by decide +kernel
theorem dX11_sumOf_14 : decode cX11_sumOf 14 = .ok (.iload_n 3, 1) := by decide +kernel
theorem dX11_sumOf_15 : decode cX11_sumOf 15 = .ok (.aload_n 1, 1) := by decide +kernel
theorem dX11_sumOf_16 : decode cX11_sumOf 16 = .ok (.iload_n 2, 1) := by decide +kernel
theorem dX11_sumOf_17 : decode cX11_sumOf 17 = .ok (.iload 4, 2) := by decide +kernel
theorem dX11_sumOf_19 : decode cX11_sumOf 19 = .ok (.iadd, 1) := by decide +kernel
theorem dX11_sumOf_20 : decode cX11_sumOf 20 = .ok (.iaload, 1) := by decide +kernel
theorem dX11_sumOf_21 : decode cX11_sumOf 21 = .ok (.iadd, 1) := by decide +kernel
theorem dX11_sumOf_22 : decode cX11_sumOf 22 = .ok (.istore_n 3, 1) := by decide +kernel
theorem dX11_sumOf_23 : decode cX11_sumOf 23 = .ok (.iinc 4 1, 3) := by decide +kernel
theorem dX11_sumOf_26 : decode cX11_sumOf 26 = .ok (.goto (-21), 3) := by decide +kernel
theorem dX11_sumOf_29 : decode cX11_sumOf 29 = .ok (.iload_n 3, 1) := by decide +kernel
theorem dX11_sumOf_30 : decode cX11_sumOf 30 = .ok (.ireturn, 1) := by decide +kernel
theorem dX11_sign_0 : decode cX11_sign 0 = .ok (.aload_n 0, 1) := by decide +kernel
theorem dX11_sign_1 : decode cX11_sign 1 = .ok (.iconst 0, 1) := by decide +kernel
theorem dX11_sign_2 : decode cX11_sign 2 = .ok (.putfield 3, 3) := by decide +kernel
theorem dX11_sign_5 : decode cX11_sign 5 = .ok (.aload_n 0, 1) := by decide +kernel
theorem dX11_sign_6 : decode cX11_sign 6 = .ok (.getfield 137, 3) := by decide +kernel
theorem dX11_sign_9 : decode cX11_sign 9 = .ok (.bipush 76, 2) := by decide +kernel
theorem dX11_sign_11 : decode cX11_sign 11 = .ok (.if_icmp .le 5, 3) := by decide +kernel
theorem dX11_sign_14 : decode cX11_sign 14 = .ok (.iconst (-1), 1) := by decide +kernel
theorem dX11_sign_15 : decode cX11_sign 15 = .ok (.ireturn, 1) := by decide +kernel
theorem dX11_sign_16 : decode cX11_sign 16 = .ok (.iconst 0, 1) := by decide +kernel
theorem dX11_sign_17 : decode cX11_sign 17 = .ok (.istore_n 2, 1) := by decide +kernel
theorem dX11_sign_18 : decode cX11_sign 18 = .ok (.iload_n 2, 1) := by decide +kernel
theorem dX11_sign_19 : decode cX11_sign 19 = .ok (.iconst 4, 1) := by decide +kernel
theorem dX11_sign_20 : decode cX11_sign 20 = .ok (.if_icmp .ge 33, 3) := by decide +kernel
theorem dX11_sign_23 : decode cX11_sign 23 = .ok (.aload_n 0, 1) := by decide +kernel
theorem dX11_sign_24 : decode cX11_sign 24 = .ok (.getfield 37, 3) := by decide +kernel
theorem dX11_sign_27 : decode cX11_sign 27 = .ok (.aload_n 0, 1) := by decide +kernel
theorem dX11_sign_28 : decode cX11_sign 28 = .ok (.getfield 137, 3) := by decide +kernel
theorem dX11_sign_31 : decode cX11_sign 31 = .ok (.iload_n 2, 1) := by decide +kernel
theorem dX11_sign_32 : decode cX11_sign 32 = .ok (.iadd, 1) := by decide +kernel
theorem dX11_sign_33 : decode cX11_sign 33 = .ok (.iload_n 1, 1) := by decide +kernel
theorem dX11_sign_34 : decode cX11_sign 34 = .ok (.bipush 24, 2) := by decide +kernel
theorem dX11_sign_36 : decode cX11_sign 36 = .ok (.bipush 8, 2) := by decide +kernel
theorem dX11_sign_38 : decode cX11_sign 38 = .ok (.iload_n 2, 1) := by decide +kernel
theorem dX11_sign_39 : decode cX11_sign 39 = .ok (.imul, 1) := by decide +kernel
theorem dX11_sign_40 : decode cX11_sign 40 = .ok (.isub, 1) := by decide +kernel
theorem dX11_sign_41 : decode cX11_sign 41 = .ok (.ishr, 1) := by decide +kernel
theorem dX11_sign_42 : decode cX11_sign 42 = .ok (.sipush 255, 3) := by decide +kernel
theorem dX11_sign_45 : decode cX11_sign 45 = .ok (.iand, 1) := by decide +kernel
theorem dX11_sign_46 : decode cX11_sign 46 = .ok (.iastore, 1) := by decide +kernel
theorem dX11_sign_47 : decode cX11_sign 47 = .ok (.iinc 2 1, 3) := by decide +kernel
theorem dX11_sign_50 : decode cX11_sign 50 = .ok (.goto (-32), 3) := by decide +kernel
theorem dX11_sign_53 : decode cX11_sign 53 = .ok (.aload_n 0, 1) := by decide +kernel
theorem dX11_sign_54 : decode cX11_sign 54 = .ok (.dup, 1) := by decide +kernel
theorem dX11_sign_55 : decode cX11_sign 55 = .ok (.getfield 137, 3) := by decide +kernel
theorem dX11_sign_58 : decode cX11_sign 58 = .ok (.iconst 4, 1) := by decide +kernel
theorem dX11_sign_59 : decode cX11_sign 59 = .ok (.iadd, 1) := by decide +kernel
theorem dX11_sign_60 : decode cX11_sign 60 = .ok (.putfield 137, 3) := by decide +kernel
theorem dX11_sign_63 : decode cX11_sign 63 = .ok (.aload_n 0, 1) := by decide +kernel
theorem dX11_sign_64 : decode cX11_sign 64 = .ok (.getfield 137, 3) := by decide +kernel
theorem dX11_sign_67 : decode cX11_sign 67 = .ok (.ireturn, 1) := by decide +kernel
theorem dX11_end_0 : decode cX11_end 0 = .ok (.aload_n 0, 1) := by decide +kernel
theorem dX11_end_1 : decode cX11_end 1 = .ok (.iconst 0, 1) := by decide +kernel
theorem dX11_end_2 : decode cX11_end 2 = .ok (.putfield 3, 3) := by decide +kernel
theorem dX11_end_5 : decode cX11_end 5 = .ok (.iload_n 1, 1) := by decide +kernel
theorem dX11_end_6 : decode cX11_end 6 = .ok (.i2l, 1) := by decide +kernel
theorem dX11_end_7 : decode cX11_end 7 = .ok (.lconst 0, 1) := by decide +kernel
theorem dX11_end_8 : decode cX11_end 8 = .ok (.aload_n 0, 1) := by decide +kernel
theorem dX11_end_9 : decode cX11_end 9 = .ok (.getfield 137, 3) := by decide +kernel
theorem dX11_end_12 : decode cX11_end 12 = .ok (.i2l, 1) := by decide +kernel
theorem dX11_end_13 : decode cX11_end 13 = .ok (.invokestatic 131, 3) := by decide +kernel
theorem dX11_end_16 : decode cX11_end 16 = .ok (.ifCond .ne 5, 3) := by decide +kernel
theorem dX11_end_19 : decode cX11_end 19 = .ok (.iconst 0, 1) := by decide +kernel
theorem dX11_end_20 : decode cX11_end 20 = .ok (.ireturn, 1) := by decide +kernel
theorem dX11_end_21 : decode cX11_end 21 = .ok (.aload_n 0, 1) := by decide +kernel
theorem dX11_end_22 : decode cX11_end 22 = .ok (.iload_n 1, 1) := by decide +kernel
theorem dX11_end_23 : decode cX11_end 23 = .ok (.putfield 137, 3) := by decide +kernel
theorem dX11_end_26 : decode cX11_end 26 = .ok (.iconst 1, 1) := by decide +kernel
theorem dX11_end_27 : decode cX11_end 27 = .ok (.ireturn, 1) := by decide +kernel
theorem dX11_begins_0 : decode cX11_begins 0 = .ok (.aload_n 0, 1) := by decide +kernel
theorem dX11_begins_1 : decode cX11_begins 1 = .ok (.getfield 137, 3) := by decide +kernel
theorem dX11_begins_4 : decode cX11_begins 4 = .ok (.istore_n 2, 1) := by decide +kernel
theorem dX11_begins_5 : decode cX11_begins 5 = .ok (.aload_n 0, 1) := by decide +kernel
theorem dX11_begins_6 : decode cX11_begins 6 = .ok (.iconst 0, 1) := by decide +kernel
theorem dX11_begins_7 : decode cX11_begins 7 = .ok (.putfield 137, 3) := by decide +kernel
theorem dX11_begins_10 : decode cX11_begins 10 = .ok (.aload_n 0, 1) := by decide +kernel
theorem dX11_begins_11 : decode cX11_begins 11 = .ok (.iconst 0, 1) := by decide +kernel
theorem dX11_begins_12 : decode cX11_begins 12 = .ok (.putfield 140, 3) := by decide +kernel
theorem dX11_begins_15 : decode cX11_begins 15 = .ok (.aload_n 0, 1) := by decide +kernel
theorem dX11_begins_16 : decode cX11_begins 16 = .ok (.iconst 0, 1) := by decide +kernel
theorem dX11_begins_17 : decode cX11_begins 17 = .ok (.putfield 143, 3) := by decide +kernel
theorem dX11_begins_20 : decode cX11_begins 20 = .ok (.aload_n 0, 1) := by decide +kernel
theorem dX11_begins_21 : decode cX11_begins 21 = .ok (.iload_n 2, 1) := by decide +kernel
theorem dX11_begins_22 : decode cX11_begins 22 = .ok (.iload_n 1, 1) := by decide +kernel
theorem dX11_begins_23 : decode cX11_begins 23 = .ok (.invokestatic 146, 3) := by decide +kernel
theorem dX11_begins_26 : decode cX11_begins 26 = .ok (.putfield 152, 3) := by decide +kernel
theorem dX11_begins_29 : decode cX11_begins 29 = .ok (.iload_n 2, 1) := by decide +kernel
theorem dX11_begins_30 : decode cX11_begins 30 = .ok (.ireturn, 1) := by decide +kernel
theorem dX11_takes_0 : decode cX11_takes 0 = .ok (.aload_n 0, 1) := by decide +kernel
theorem dX11_takes_1 : decode cX11_takes 1 = .ok (.getfield 140, 3) := by decide +kernel
theorem dX11_takes_4 : decode cX11_takes 4 = .ok (.aload_n 0, 1) := by decide +kernel
theorem dX11_takes_5 : decode cX11_takes 5 = .ok (.getfield 152, 3) := by decide +kernel
theorem dX11_takes_8 : decode cX11_takes 8 = .ok (.if_icmp .ge 20, 3) := by decide +kernel
theorem dX11_takes_11 : decode cX11_takes 11 = .ok (.aload_n 0, 1) := by decide +kernel
theorem dX11_takes_12 : decode cX11_takes 12 = .ok (.getfield 37, 3) := by decide +kernel
theorem dX11_takes_15 : decode cX11_takes 15 = .ok (.aload_n 0, 1) := by decide +kernel
theorem dX11_takes_16 : decode cX11_takes 16 = .ok (.getfield 140, 3) := by decide +kernel
theorem dX11_takes_19 : decode cX11_takes 19 = .ok (.iaload, 1) := by decide +kernel
theorem dX11_takes_20 : decode cX11_takes 20 = .ok (.iload_n 1, 1) := by decide +kernel
theorem dX11_takes_21 : decode cX11_takes 21 = .ok (.if_icmp .ne 7, 3) := by decide +kernel
theorem dX11_takes_24 : decode cX11_takes 24 = .ok (.iconst 1, 1) := by decide +kernel
theorem dX11_takes_25 : decode cX11_takes 25 = .ok (.goto 4, 3) := by decide +kernel
theorem dX11_takes_28 : decode cX11_takes 28 = .ok (.iconst 0, 1) := by decide +kernel
theorem dX11_takes_29 : decode cX11_takes 29 = .ok (.istore_n 2, 1) := by decide +kernel
theorem dX11_takes_30 : decode cX11_takes 30 = .ok (.aload_n 0, 1) := by decide +kernel
theorem dX11_takes_31 : decode cX11_takes 31 = .ok (.dup, 1) := by decide +kernel
theorem dX11_takes_32 : decode cX11_takes 32 = .ok (.getfield 140, 3) := by decide +kernel
theorem dX11_takes_35 : decode cX11_takes 35 = .ok (.iload_n 2, 1) := by decide +kernel
theorem dX11_takes_36 : decode cX11_takes 36 = .ok (.invokestatic 155, 3) := by decide +kernel
theorem dX11_takes_39 : decode cX11_takes 39 = .ok (.iadd, 1) := by decide +kernel
theorem dX11_takes_40 : decode cX11_takes 40 = .ok (.putfield 140, 3) := by decide +kernel
theorem dX11_takes_43 : decode cX11_takes 43 = .ok (.iload_n 2, 1) := by decide +kernel
theorem dX11_takes_44 : decode cX11_takes 44 = .ok (.ireturn, 1) := by decide +kernel
theorem dX11_isDigit_0 : decode cX11_isDigit 0 = .ok (.aload_n 0, 1) := by decide +kernel
theorem dX11_isDigit_1 : decode cX11_isDigit 1 = .ok (.getfield 140, 3) := by decide +kernel
theorem dX11_isDigit_4 : decode cX11_isDigit 4 = .ok (.aload_n 0, 1) := by decide +kernel
theorem dX11_isDigit_5 : decode cX11_isDigit 5 = .ok (.getfield 152, 3) := by decide +kernel
theorem dX11_isDigit_8 : decode cX11_isDigit 8 = .ok (.if_icmp .ge 29, 3) := by decide +kernel
theorem dX11_isDigit_11 : decode cX11_isDigit 11 = .ok (.aload_n 0, 1) := by decide +kernel
theorem dX11_isDigit_12 : decode cX11_isDigit 12 = .ok (.getfield 37, 3) := by decide +kernel
theorem dX11_isDigit_15 : decode cX11_isDigit 15 = .ok (.aload_n 0, 1) := by decide +kernel
theorem dX11_isDigit_16 : decode cX11_isDigit 16 = .ok (.getfield 140, 3) := by decide +kernel
theorem dX11_isDigit_19 : decode cX11_isDigit 19 = .ok (.iaload, 1) := by decide +kernel
theorem dX11_isDigit_20 : decode cX11_isDigit 20 = .ok (.i2l, 1) := by decide +kernel
theorem dX11_isDigit_21 : decode cX11_isDigit 21 = .ok (.ldc2_w 159, 3) := by decide +kernel
theorem dX11_isDigit_24 : decode cX11_isDigit 24 = .ok (.ldc2_w 161, 3) := by decide +kernel
theorem dX11_isDigit_27 : decode cX11_isDigit 27 = .ok (.invokestatic 131, 3) := by decide +kernel
theorem dX11_isDigit_30 : decode cX11_isDigit 30 = .ok (.ifCond .eq 7, 3) := by decide +kernel
theorem dX11_isDigit_33 : decode cX11_isDigit 33 = .ok (.iconst 1, 1) := by decide +kernel
theorem dX11_isDigit_34 : decode cX11_isDigit 34 = .ok (.goto 4, 3) := by decide +kernel
theorem dX11_isDigit_37 : decode cX11_isDigit 37 = .ok (.iconst 0, 1) := by decide +kernel
theorem dX11_isDigit_38 : decode cX11_isDigit 38 = .ok (.ireturn, 1) := by decide +kernel
theorem dX11_isLetter_0 : decode cX11_isLetter 0 = .ok (.aload_n 0, 1) := by decide +kernel
theorem dX11_isLetter_1 : decode cX11_isLetter 1 = .ok (.getfield 140, 3) := by decide +kernel
theorem dX11_isLetter_4 : decode cX11_isLetter 4 = .ok (.aload_n 0, 1) := by decide +kernel
theorem dX11_isLetter_5 : decode cX11_isLetter 5 = .ok (.getfield 152, 3) := by decide +kernel
theorem dX11_isLetter_8 : decode cX11_isLetter 8 = .ok (.if_icmp .ge 29, 3) := by decide +kernel
theorem dX11_isLetter_11 : decode cX11_isLetter 11 = .ok (.aload_n 0, 1) := by decide +kernel
theorem dX11_isLetter_12 : decode cX11_isLetter 12 = .ok (.getfield 37, 3) := by decide +kernel
theorem dX11_isLetter_15 : decode cX11_isLetter 15 = .ok (.aload_n 0, 1) := by decide +kernel
theorem dX11_isLetter_16 : decode cX11_isLetter 16 = .ok (.getfield 140, 3) := by decide +kernel
theorem dX11_isLetter_19 : decode cX11_isLetter 19 = .ok (.iaload, 1) := by decide +kernel
theorem dX11_isLetter_20 : decode cX11_isLetter 20 = .ok (.i2l, 1) := by decide +kernel
theorem dX11_isLetter_21 : decode cX11_isLetter 21 = .ok (.ldc2_w 163, 3) := by decide +kernel
theorem dX11_isLetter_24 : decode cX11_isLetter 24 = .ok (.ldc2_w 165, 3) := by decide +kernel
theorem dX11_isLetter_27 : decode cX11_isLetter 27 = .ok (.invokestatic 131, 3) := by decide +kernel
theorem dX11_isLetter_30 : decode cX11_isLetter 30 = .ok (.ifCond .eq 7, 3) := by decide +kernel
theorem dX11_isLetter_33 : decode cX11_isLetter 33 = .ok (.iconst 1, 1) := by decide +kernel
theorem dX11_isLetter_34 : decode cX11_isLetter 34 = .ok (.goto 4, 3) := by decide +kernel
theorem dX11_isLetter_37 : decode cX11_isLetter 37 = .ok (.iconst 0, 1) := by decide +kernel
theorem dX11_isLetter_38 : decode cX11_isLetter 38 = .ok (.ireturn, 1) := by decide +kernel
theorem dX11_takesOf_0 : decode cX11_takesOf 0 = .ok (.iconst 0, 1) := by decide +kernel
theorem dX11_takesOf_1 : decode cX11_takesOf 1 = .ok (.istore_n 2, 1) := by decide +kernel
theorem dX11_takesOf_2 : decode cX11_takesOf 2 = .ok (.iload_n 2, 1) := by decide +kernel
theorem dX11_takesOf_3 : decode cX11_takesOf 3 = .ok (.aload_n 1, 1) := by decide +kernel
theorem dX11_takesOf_4 : decode cX11_takesOf 4 = .ok (.invokevirtual 167, 3) := by decide +kernel
theorem dX11_takesOf_7 : decode cX11_takesOf 7 = .ok (.if_icmp .ge 49, 3) := by decide +kernel
theorem dX11_takesOf_10 : decode cX11_takesOf 10 = .ok (.aload_n 0, 1) := by decide +kernel
theorem dX11_takesOf_11 : decode cX11_takesOf 11 = .ok (.getfield 140, 3) := by decide +kernel
theorem dX11_takesOf_14 : decode cX11_takesOf 14 = .ok (.aload_n 0, 1) := by decide +kernel
theorem dX11_takesOf_15 : decode cX11_takesOf 15 = .ok (.getfield 152, 3) := by decide +kernel
theorem dX11_takesOf_18 : decode cX11_takesOf 18 = .ok (.if_icmp .ge 38, 3) := by decide +kernel
theorem dX11_takesOf_21 : decode cX11_takesOf 21 = .ok (.aload_n 1, 1) := by decide +kernel
theorem dX11_takesOf_22 : decode cX11_takesOf 22 = .ok (.iload_n 2, 1) := by decide +kernel
theorem dX11_takesOf_23 : decode cX11_takesOf 23 = .ok (.invokevirtual 173, 3) := by decide +kernel
theorem dX11_takesOf_26 : decode cX11_takesOf 26 = .ok (.aload_n 0, 1) := by decide +kernel
theorem dX11_takesOf_27 : decode cX11_takesOf 27 = .ok (.getfield 37, 3) := by decide +kernel
theorem dX11_takesOf_30 : decode cX11_takesOf 30 = .ok (.aload_n 0, 1) := by decide +kernel
theorem dX11_takesOf_31 : decode cX11_takesOf 31 = .ok (.getfield 140, 3) := by decide +kernel
theorem dX11_takesOf_34 : decode cX11_takesOf 34 = .ok (.iaload, 1) := by decide +kernel
theorem dX11_takesOf_35 : decode cX11_takesOf 35 = .ok (.if_icmp .ne 15, 3) := by decide +kernel
theorem dX11_takesOf_38 : decode cX11_takesOf 38 = .ok (.aload_n 0, 1) := by decide +kernel
theorem dX11_takesOf_39 : decode cX11_takesOf 39 = .ok (.dup, 1) := by decide +kernel
theorem dX11_takesOf_40 : decode cX11_takesOf 40 = .ok (.getfield 140, 3) := by decide +kernel
theorem dX11_takesOf_43 : decode cX11_takesOf 43 = .ok (.iconst 1, 1) := by decide +kernel
theorem dX11_takesOf_44 : decode cX11_takesOf 44 = .ok (.iadd, 1) := by decide +kernel
theorem dX11_takesOf_45 : decode cX11_takesOf 45 = .ok (.putfield 140, 3) := by decide +kernel
theorem dX11_takesOf_48 : decode cX11_takesOf 48 = .ok (.iload_n 2, 1) := by decide +kernel
theorem dX11_takesOf_49 : decode cX11_takesOf 49 = .ok (.ireturn, 1) := by decide +kernel
theorem dX11_takesOf_50 : decode cX11_takesOf 50 = .ok (.iinc 2 1, 3) := by decide +kernel
theorem dX11_takesOf_53 : decode cX11_takesOf 53 = .ok (.goto (-51), 3) := by decide +kernel
theorem dX11_takesOf_56 : decode cX11_takesOf 56 = .ok (.iconst (-1), 1) := by decide +kernel
theorem dX11_takesOf_57 : decode cX11_takesOf 57 = .ok (.ireturn, 1) := by decide +kernel
theorem dX11_number_0 : decode cX11_number 0 = .ok (.aload_n 0, 1) := by decide +kernel
theorem dX11_number_1 : decode cX11_number 1 = .ok (.invokevirtual 177, 3) := by decide +kernel
theorem dX11_number_4 : decode cX11_number 4 = .ok (.ifCond .ne 5, 3) := by decide +kernel
theorem dX11_number_7 : decode cX11_number 7 = .ok (.iconst (-1), 1) := by decide +kernel
theorem dX11_number_8 : decode cX11_number 8 = .ok (.ireturn, 1) := by decide +kernel
theorem dX11_number_9 : decode cX11_number 9 = .ok (.iconst 0, 1) := by decide +kernel
theorem dX11_number_10 : decode cX11_number 10 = .ok (.istore_n 2, 1) := by decide +kernel
theorem dX11_number_11 : decode cX11_number 11 = .ok (.iconst 0, 1) := by decide +kernel
theorem dX11_number_12 : decode cX11_number 12 = .ok (.istore_n 3, 1) := by decide +kernel
theorem dX11_number_13 : decode cX11_number 13 = .ok (.iload_n 3, 1) := by decide +kernel
theorem dX11_number_14 : decode cX11_number 14 = .ok (.iload_n 1, 1) := by decide +kernel
theorem dX11_number_15 : decode cX11_number 15 = .ok (.if_icmp .ge 44, 3) := by decide +kernel
theorem dX11_number_18 : decode cX11_number 18 = .ok (.aload_n 0, 1) := by decide +kernel
theorem dX11_number_19 : decode cX11_number 19 = .ok (.invokevirtual 177, 3) := by decide +kernel
theorem dX11_number_22 : decode cX11_number 22 = .ok (.ifCond .eq 37, 3) := by decide +kernel
theorem dX11_number_25 : decode cX11_number 25 = .ok (.bipush 10, 2) := by decide +kernel
theorem dX11_number_27 : decode cX11_number 27 = .ok (.iload_n 2, 1) := by decide +kernel
theorem dX11_number_28 : decode cX11_number 28 = .ok (.imul, 1) := by decide +kernel
theorem dX11_number_29 : decode cX11_number 29 = .ok (.aload_n 0, 1) := by decide +kernel
theorem dX11_number_30 : decode cX11_number 30 = .ok (.getfield 37, 3) := by decide +kernel
theorem dX11_number_33 : decode cX11_number 33 = .ok (.aload_n 0, 1) := by decide +kernel
theorem dX11_number_34 : decode cX11_number 34 = .ok (.getfield 140, 3) := by decide +kernel
theorem dX11_number_37 : decode cX11_number 37 = .ok (.iaload, 1) := by decide +kernel
theorem dX11_number_38 : decode cX11_number 38 = .ok (.iadd, 1) := by decide +kernel
theorem dX11_number_39 : decode cX11_number 39 = .ok (.bipush 48, 2) := by decide +kernel
theorem dX11_number_41 : decode cX11_number 41 = .ok (.isub, 1) := by decide +kernel
theorem dX11_number_42 : decode cX11_number 42 = .ok (.istore_n 2, 1) := by decide +kernel
theorem dX11_number_43 : decode cX11_number 43 = .ok (.aload_n 0, 1) := by decide +kernel
theorem dX11_number_44 : decode cX11_number 44 = .ok (.dup, 1) := by decide +kernel
theorem dX11_number_45 : decode cX11_number 45 = .ok (.getfield 140, 3) := by decide +kernel
theorem dX11_number_48 : decode cX11_number 48 = .ok (.iconst 1, 1) := by decide +kernel
theorem dX11_number_49 : decode cX11_number 49 = .ok (.iadd, 1) := by decide +kernel
theorem dX11_number_50 : decode cX11_number 50 = .ok (.putfield 140, 3) := by decide +kernel
theorem dX11_number_53 : decode cX11_number 53 = .ok (.iinc 3 1, 3) := by decide +kernel
theorem dX11_number_56 : decode cX11_number 56 = .ok (.goto (-43), 3) := by decide +kernel
theorem dX11_number_59 : decode cX11_number 59 = .ok (.iload_n 2, 1) := by decide +kernel
theorem dX11_number_60 : decode cX11_number 60 = .ok (.ireturn, 1) := by decide +kernel
theorem dX11_digitIn_0 : decode cX11_digitIn 0 = .ok (.aload_n 0, 1) := by decide +kernel
theorem dX11_digitIn_1 : decode cX11_digitIn 1 = .ok (.getfield 140, 3) := by decide +kernel
theorem dX11_digitIn_4 : decode cX11_digitIn 4 = .ok (.aload_n 0, 1) := by decide +kernel
theorem dX11_digitIn_5 : decode cX11_digitIn 5 = .ok (.getfield 152, 3) := by decide +kernel
theorem dX11_digitIn_8 : decode cX11_digitIn 8 = .ok (.if_icmp .ge 42, 3) := by decide +kernel
theorem dX11_digitIn_11 : decode cX11_digitIn 11 = .ok (.aload_n 0, 1) := by decide +kernel
theorem dX11_digitIn_12 : decode cX11_digitIn 12 = .ok (.getfield 37, 3) := by decide +kernel
theorem dX11_digitIn_15 : decode cX11_digitIn 15 = .ok (.aload_n 0, 1) := by decide +kernel
theorem dX11_digitIn_16 : decode cX11_digitIn 16 = .ok (.getfield 140, 3) := by decide +kernel
theorem dX11_digitIn_19 : decode cX11_digitIn 19 = .ok (.iaload, 1) := by decide +kernel
theorem dX11_digitIn_20 : decode cX11_digitIn 20 = .ok (.bipush 48, 2) := by decide +kernel
theorem dX11_digitIn_22 : decode cX11_digitIn 22 = .ok (.isub, 1) := by decide +kernel
theorem dX11_digitIn_23 : decode cX11_digitIn 23 = .ok (.i2l, 1) := by decide +kernel
theorem dX11_digitIn_24 : decode cX11_digitIn 24 = .ok (.iload_n 1, 1) := by decide +kernel
theorem dX11_digitIn_25 : decode cX11_digitIn 25 = .ok (.i2l, 1) := by decide +kernel
theorem dX11_digitIn_26 : decode cX11_digitIn 26 = .ok (.iload_n 2, 1) := by decide +kernel
theorem dX11_digitIn_27 : decode cX11_digitIn 27 = .ok (.i2l, 1) := by decide +kernel
theorem dX11_digitIn_28 : decode cX11_digitIn 28 = .ok (.invokestatic 131, 3) := by decide +kernel
theorem dX11_digitIn_31 : decode cX11_digitIn 31 = .ok (.ifCond .eq 19, 3) := by decide +kernel
theorem dX11_digitIn_34 : decode cX11_digitIn 34 = .ok (.aload_n 0, 1) := by decide +kernel
theorem dX11_digitIn_35 : decode cX11_digitIn 35 = .ok (.getfield 37, 3) := by decide +kernel
theorem dX11_digitIn_38 : decode cX11_digitIn 38 = .ok (.aload_n 0, 1) := by decide +kernel
theorem dX11_digitIn_39 : decode cX11_digitIn 39 = .ok (.getfield 140, 3) := by decide +kernel
theorem dX11_digitIn_42 : decode cX11_digitIn 42 = .ok (.iaload, 1) := by decide +kernel
theorem dX11_digitIn_43 : decode cX11_digitIn 43 = .ok (.bipush 48, 2) := by decide +kernel
theorem dX11_digitIn_45 : decode cX11_digitIn 45 = .ok (.isub, 1) := by decide +kernel
theorem dX11_digitIn_46 : decode cX11_digitIn 46 = .ok (.iload_n 3, 1) := by decide +kernel
theorem dX11_digitIn_47 : decode cX11_digitIn 47 = .ok (.if_icmp .ne 5, 3) := by decide +kernel
theorem dX11_digitIn_50 : decode cX11_digitIn 50 = .ok (.iconst (-1), 1) := by decide +kernel
theorem dX11_digitIn_51 : decode cX11_digitIn 51 = .ok (.ireturn, 1) := by decide +kernel
theorem dX11_digitIn_52 : decode cX11_digitIn 52 = .ok (.aload_n 0, 1) := by decide +kernel
theorem dX11_digitIn_53 : decode cX11_digitIn 53 = .ok (.dup, 1) := by decide +kernel
theorem dX11_digitIn_54 : decode cX11_digitIn 54 = .ok (.getfield 140, 3) := by decide +kernel
theorem dX11_digitIn_57 : decode cX11_digitIn 57 = .ok (.iconst 1, 1) := by decide +kernel
theorem dX11_digitIn_58 : decode cX11_digitIn 58 = .ok (.iadd, 1) := by decide +kernel
theorem dX11_digitIn_59 : decode cX11_digitIn 59 = .ok (.putfield 140, 3) := by decide +kernel
theorem dX11_digitIn_62 : decode cX11_digitIn 62 = .ok (.aload_n 0, 1) := by decide +kernel
theorem dX11_digitIn_63 : decode cX11_digitIn 63 = .ok (.getfield 37, 3) := by decide +kernel
theorem dX11_digitIn_66 : decode cX11_digitIn 66 = .ok (.aload_n 0, 1) := by decide +kernel
theorem dX11_digitIn_67 : decode cX11_digitIn 67 = .ok (.getfield 140, 3) := by decide +kernel
theorem dX11_digitIn_70 : decode cX11_digitIn 70 = .ok (.iconst 1, 1) := by decide +kernel
theorem dX11_digitIn_71 : decode cX11_digitIn 71 = .ok (.isub, 1) := by decide +kernel
theorem dX11_digitIn_72 : decode cX11_digitIn 72 = .ok (.iaload, 1) := by decide +kernel
theorem dX11_digitIn_73 : decode cX11_digitIn 73 = .ok (.bipush 48, 2) := by decide +kernel
theorem dX11_digitIn_75 : decode cX11_digitIn 75 = .ok (.isub, 1) := by decide +kernel
theorem dX11_digitIn_76 : decode cX11_digitIn 76 = .ok (.ireturn, 1) := by decide +kernel
theorem dX11_faultOf_0 : decode cX11_faultOf 0 = .ok (.iload_n 3, 1) := by decide +kernel
theorem dX11_faultOf_1 : decode cX11_faultOf 1 = .ok (.ifCond .eq 18, 3) := by decide +kernel
theorem dX11_faultOf_4 : decode cX11_faultOf 4 = .ok (.aload_n 0, 1) := by decide +kernel
theorem dX11_faultOf_5 : decode cX11_faultOf 5 = .ok (.getfield 140, 3) := by decide +kernel
theorem dX11_faultOf_8 : decode cX11_faultOf 8 = .ok (.aload_n 0, 1) := by decide +kernel
theorem dX11_faultOf_9 : decode cX11_faultOf 9 = .ok (.getfield 152, 3) := by decide +kernel
theorem dX11_faultOf_12 : decode cX11_faultOf 12 = .ok (.if_icmp .ne 7, 3) := by decide +kernel
theorem dX11_faultOf_15 : decode cX11_faultOf 15 = .ok (.iconst 1, 1) := by decide +kernel
theorem dX11_faultOf_16 : decode cX11_faultOf 16 = .ok (.goto 4, 3) := by decide +kernel
theorem dX11_faultOf_19 : decode cX11_faultOf 19 = .ok (.iconst 0, 1) := by decide +kernel
theorem dX11_faultOf_20 : decode cX11_faultOf 20 = .ok (.istore 4, 2) := by decide +kernel
theorem dX11_faultOf_22 : decode cX11_faultOf 22 = .ok (.iload_n 1, 1) := by decide +kernel
theorem dX11_faultOf_23 : decode cX11_faultOf 23 = .ok (.iload_n 2, 1) := by decide +kernel
theorem dX11_faultOf_24 : decode cX11_faultOf 24 = .ok (.if_icmp .le 20, 3) := by decide +kernel
theorem dX11_faultOf_27 : decode cX11_faultOf 27 = .ok (.iload 4, 2) := by decide +kernel
theorem dX11_faultOf_29 : decode cX11_faultOf 29 = .ok (.ifCond .ne 11, 3) := by decide +kernel
theorem dX11_faultOf_32 : decode cX11_faultOf 32 = .ok (.aload_n 0, 1) := by decide +kernel
theorem dX11_faultOf_33 : decode cX11_faultOf 33 = .ok (.getfield 140, 3) := by decide +kernel
theorem dX11_faultOf_36 : decode cX11_faultOf 36 = .ok (.iload_n 2, 1) := by decide +kernel
theorem dX11_faultOf_37 : decode cX11_faultOf 37 = .ok (.if_icmp .lt 7, 3) := by decide +kernel
theorem dX11_faultOf_40 : decode cX11_faultOf 40 = .ok (.iconst (-1), 1) := by decide +kernel
theorem dX11_faultOf_41 : decode cX11_faultOf 41 = .ok (.iload_n 2, 1) := by decide +kernel
theorem dX11_faultOf_42 : decode cX11_faultOf 42 = .ok (.isub, 1) := by decide +kernel
theorem dX11_faultOf_43 : decode cX11_faultOf 43 = .ok (.ireturn, 1) := by decide +kernel
theorem dX11_faultOf_44 : decode cX11_faultOf 44 = .ok (.iload 4, 2) := by decide +kernel
theorem dX11_faultOf_46 : decode cX11_faultOf 46 = .ok (.ifCond .eq 7, 3) := by decide +kernel
theorem dX11_faultOf_49 : decode cX11_faultOf 49 = .ok (.iconst 0, 1) := by decide +kernel
theorem dX11_faultOf_50 : decode cX11_faultOf 50 = .ok (.goto 9, 3) := by decide +kernel
theorem dX11_faultOf_53 : decode cX11_faultOf 53 = .ok (.iconst (-1), 1) := by decide +kernel
theorem dX11_faultOf_54 : decode cX11_faultOf 54 = .ok (.aload_n 0, 1) := by decide +kernel
theorem dX11_faultOf_55 : decode cX11_faultOf 55 = .ok (.getfield 140, 3) := by decide +kernel
theorem dX11_faultOf_58 : decode cX11_faultOf 58 = .ok (.isub, 1) := by decide +kernel
theorem dX11_faultOf_59 : decode cX11_faultOf 59 = .ok (.ireturn, 1) := by decide +kernel
theorem dX11_readsPassage_0 : decode cX11_readsPassage 0 = .ok (.aload_n 0, 1) := by decide +kernel
theorem dX11_readsPassage_1 : decode cX11_readsPassage 1 = .ok (.getfield 128, 3) := by decide +kernel
theorem dX11_readsPassage_4 : decode cX11_readsPassage 4 = .ok (.aload_n 0, 1) := by decide +kernel
theorem dX11_readsPassage_5 : decode cX11_readsPassage 5 = .ok (.getfield 181, 3) := by decide +kernel
theorem dX11_readsPassage_8 : decode cX11_readsPassage 8 = .ok (.iadd, 1) := by decide +kernel
theorem dX11_readsPassage_9 : decode cX11_readsPassage 9 = .ok (.bipush 12, 2) := by decide +kernel
theorem dX11_readsPassage_11 : decode cX11_readsPassage 11 = .ok (.if_icmp .ne 5, 3) := by decide +kernel
theorem dX11_readsPassage_14 : decode cX11_readsPassage 14 = .ok (.iconst 0, 1) := by decide +kernel
theorem dX11_readsPassage_15 : decode cX11_readsPassage 15 = .ok (.ireturn, 1) := by decide +kernel
theorem dX11_readsPassage_16 : decode cX11_readsPassage 16 = .ok (.iconst 4, 1) := by decide +kernel
theorem dX11_readsPassage_17 : decode cX11_readsPassage 17 = .ok (.aload_n 0, 1) := by decide +kernel
theorem dX11_readsPassage_18 : decode cX11_readsPassage 18 = .ok (.getfield 181, 3) := by decide +kernel
theorem dX11_readsPassage_21 : decode cX11_readsPassage 21 = .ok (.imul, 1) := by decide +kernel
theorem dX11_readsPassage_22 : decode cX11_readsPassage 22 = .ok (.istore_n 1, 1) := by decide +kernel
theorem dX11_readsPassage_23 : decode cX11_readsPassage 23 = .ok (.aload_n 0, 1) := by decide +kernel
theorem dX11_readsPassage_24 : decode cX11_readsPassage 24 = .ok (.getfield 40, 3) := by decide +kernel
theorem dX11_readsPassage_27 : decode cX11_readsPassage 27 = .ok (.iload_n 1, 1) := by decide +kernel
theorem dX11_readsPassage_28 : decode cX11_readsPassage 28 = .ok (.aload_n 0, 1) := by decide +kernel
theorem dX11_readsPassage_29 : decode cX11_readsPassage 29 = .ok (.iconst 0, 1) := by decide +kernel
theorem dX11_readsPassage_30 : decode cX11_readsPassage 30 = .ok (.bipush 7, 2) := by decide +kernel
theorem dX11_readsPassage_32 : decode cX11_readsPassage 32 = .ok (.iconst (-1), 1) := by decide +kernel
theorem dX11_readsPassage_33 : decode cX11_readsPassage 33 = .ok (.invokevirtual 184, 3) := by decide +kernel
theorem dX11_readsPassage_36 : decode cX11_readsPassage 36 = .ok (.iastore, 1) := by decide +kernel
theorem dX11_readsPassage_37 : decode cX11_readsPassage 37 = .ok (.aload_n 0, 1) := by decide +kernel
theorem dX11_readsPassage_38 : decode cX11_readsPassage 38 = .ok (.getfield 40, 3) := by decide +kernel
theorem dX11_readsPassage_41 : decode cX11_readsPassage 41 = .ok (.iload_n 1, 1) := by decide +kernel
theorem dX11_readsPassage_42 : decode cX11_readsPassage 42 = .ok (.iconst 1, 1) := by decide +kernel
theorem dX11_readsPassage_43 : decode cX11_readsPassage 43 = .ok (.iadd, 1) := by decide +kernel
theorem dX11_readsPassage_44 : decode cX11_readsPassage 44 = .ok (.aload_n 0, 1) := by decide +kernel
theorem dX11_readsPassage_45 : decode cX11_readsPassage 45 = .ok (.getfield 40, 3) := by decide +kernel
theorem dX11_readsPassage_48 : decode cX11_readsPassage 48 = .ok (.iload_n 1, 1) := by decide +kernel
theorem dX11_readsPassage_49 : decode cX11_readsPassage 49 = .ok (.iaload, 1) := by decide +kernel
theorem dX11_readsPassage_50 : decode cX11_readsPassage 50 = .ok (.ifCond .ge 7, 3) := by decide +kernel
theorem dX11_readsPassage_53 : decode cX11_readsPassage 53 = .ok (.iconst (-1), 1) := by decide +kernel
theorem dX11_readsPassage_54 : decode cX11_readsPassage 54 = .ok (.goto 16, 3) := by decide +kernel
theorem dX11_readsPassage_57 : decode cX11_readsPassage 57 = .ok (.aload_n 0, 1) := by decide +kernel
theorem dX11_readsPassage_58 : decode cX11_readsPassage 58 = .ok (.iconst 0, 1) := by decide +kernel
theorem dX11_readsPassage_59 : decode cX11_readsPassage 59 = .ok (.bipush 7, 2) := by decide +kernel
theorem dX11_readsPassage_61 : decode cX11_readsPassage 61 = .ok (.aload_n 0, 1) := by decide +kernel
theorem dX11_readsPassage_62 : decode cX11_readsPassage 62 = .ok (.getfield 40, 3) := by decide +kernel
theorem dX11_readsPassage_65 : decode cX11_readsPassage 65 = .ok (.iload_n 1, 1) := by decide +kernel
theorem dX11_readsPassage_66 : decode cX11_readsPassage 66 = .ok (.iaload, 1) := by decide +kernel
theorem dX11_readsPassage_67 : decode cX11_readsPassage 67 = .ok (.invokevirtual 184, 3) := by decide +kernel
theorem dX11_readsPassage_70 : decode cX11_readsPassage 70 = .ok (.iastore, 1) := by decide +kernel
theorem dX11_readsPassage_71 : decode cX11_readsPassage 71 = .ok (.aload_n 0, 1) := by decide +kernel
theorem dX11_readsPassage_72 : decode cX11_readsPassage 72 = .ok (.getfield 40, 3) := by decide +kernel
theorem dX11_readsPassage_75 : decode cX11_readsPassage 75 = .ok (.iload_n 1, 1) := by decide +kernel
theorem dX11_readsPassage_76 : decode cX11_readsPassage 76 = .ok (.iconst 2, 1) := by decide +kernel
theorem dX11_readsPassage_77 : decode cX11_readsPassage 77 = .ok (.iadd, 1) := by decide +kernel
theorem dX11_readsPassage_78 : decode cX11_readsPassage 78 = .ok (.aload_n 0, 1) := by decide +kernel
theorem dX11_readsPassage_79 : decode cX11_readsPassage 79 = .ok (.getfield 40, 3) := by decide +kernel
theorem dX11_readsPassage_82 : decode cX11_readsPassage 82 = .ok (.iload_n 1, 1) := by decide +kernel
theorem dX11_readsPassage_83 : decode cX11_readsPassage 83 = .ok (.iconst 1, 1) := by decide +kernel
theorem dX11_readsPassage_84 : decode cX11_readsPassage 84 = .ok (.iadd, 1) := by decide +kernel
theorem dX11_readsPassage_85 : decode cX11_readsPassage 85 = .ok (.iaload, 1) := by decide +kernel
theorem dX11_readsPassage_86 : decode cX11_readsPassage 86 = .ok (.ifCond .ge 7, 3) := by decide +kernel
theorem dX11_readsPassage_89 : decode cX11_readsPassage 89 = .ok (.iconst (-1), 1) := by decide +kernel
theorem dX11_readsPassage_90 : decode cX11_readsPassage 90 = .ok (.goto 11, 3) := by decide +kernel
theorem dX11_readsPassage_93 : decode cX11_readsPassage 93 = .ok (.aload_n 0, 1) := by decide +kernel
theorem dX11_readsPassage_94 : decode cX11_readsPassage 94 = .ok (.iconst 1, 1) := by decide +kernel
theorem dX11_readsPassage_95 : decode cX11_readsPassage 95 = .ok (.bipush 9, 2) := by decide +kernel
theorem dX11_readsPassage_97 : decode cX11_readsPassage 97 = .ok (.iconst (-1), 1) := by decide +kernel
theorem dX11_readsPassage_98 : decode cX11_readsPassage 98 = .ok (.invokevirtual 184, 3) := by decide +kernel
theorem dX11_readsPassage_101 : decode cX11_readsPassage 101 = .ok (.iastore, 1) := by decide +kernel
theorem dX11_readsPassage_102 : decode cX11_readsPassage 102 = .ok (.aload_n 0, 1) := by decide +kernel
theorem dX11_readsPassage_103 : decode cX11_readsPassage 103 = .ok (.getfield 40, 3) := by decide +kernel
theorem dX11_readsPassage_106 : decode cX11_readsPassage 106 = .ok (.iload_n 1, 1) := by decide +kernel
theorem dX11_readsPassage_107 : decode cX11_readsPassage 107 = .ok (.iconst 3, 1) := by decide +kernel
theorem dX11_readsPassage_108 : decode cX11_readsPassage 108 = .ok (.iadd, 1) := by decide +kernel
theorem dX11_readsPassage_109 : decode cX11_readsPassage 109 = .ok (.aload_n 0, 1) := by decide +kernel
theorem dX11_readsPassage_110 : decode cX11_readsPassage 110 = .ok (.getfield 40, 3) := by decide +kernel
theorem dX11_readsPassage_113 : decode cX11_readsPassage 113 = .ok (.iload_n 1, 1) := by decide +kernel
theorem dX11_readsPassage_114 : decode cX11_readsPassage 114 = .ok (.iconst 2, 1) := by decide +kernel
theorem dX11_readsPassage_115 : decode cX11_readsPassage 115 = .ok (.iadd, 1) := by decide +kernel
theorem dX11_readsPassage_116 : decode cX11_readsPassage 116 = .ok (.iaload, 1) := by decide +kernel
theorem dX11_readsPassage_117 : decode cX11_readsPassage 117 = .ok (.ifCond .ge 7, 3) := by decide +kernel
theorem dX11_readsPassage_120 : decode cX11_readsPassage 120 = .ok (.iconst (-1), 1) := by decide +kernel
theorem dX11_readsPassage_121 : decode cX11_readsPassage 121 = .ok (.goto 8, 3) := by decide +kernel
theorem dX11_readsPassage_124 : decode cX11_readsPassage 124 = .ok (.aload_n 0, 1) := by decide +kernel
theorem dX11_readsPassage_125 : decode cX11_readsPassage 125 = .ok (.iconst 1, 1) := by decide +kernel
theorem dX11_readsPassage_126 : decode cX11_readsPassage 126 = .ok (.invokevirtual 188, 3) := by decide +kernel
theorem dX11_readsPassage_129 : decode cX11_readsPassage 129 = .ok (.iastore, 1) := by decide +kernel
theorem dX11_readsPassage_130 : decode cX11_readsPassage 130 = .ok (.aload_n 0, 1) := by decide +kernel
theorem dX11_readsPassage_131 : decode cX11_readsPassage 131 = .ok (.dup, 1) := by decide +kernel
theorem dX11_readsPassage_132 : decode cX11_readsPassage 132 = .ok (.getfield 181, 3) := by decide +kernel
theorem dX11_readsPassage_135 : decode cX11_readsPassage 135 = .ok (.iconst 1, 1) := by decide +kernel
theorem dX11_readsPassage_136 : decode cX11_readsPassage 136 = .ok (.iadd, 1) := by decide +kernel
theorem dX11_readsPassage_137 : decode cX11_readsPassage 137 = .ok (.putfield 181, 3) := by decide +kernel
theorem dX11_readsPassage_140 : decode cX11_readsPassage 140 = .ok (.aload_n 0, 1) := by decide +kernel
theorem dX11_readsPassage_141 : decode cX11_readsPassage 141 = .ok (.getfield 40, 3) := by decide +kernel
theorem dX11_readsPassage_144 : decode cX11_readsPassage 144 = .ok (.iload_n 1, 1) := by decide +kernel
theorem dX11_readsPassage_145 : decode cX11_readsPassage 145 = .ok (.iconst 3, 1) := by decide +kernel
theorem dX11_readsPassage_146 : decode cX11_readsPassage 146 = .ok (.iadd, 1) := by decide +kernel
theorem dX11_readsPassage_147 : decode cX11_readsPassage 147 = .ok (.iaload, 1) := by decide +kernel
theorem dX11_readsPassage_148 : decode cX11_readsPassage 148 = .ok (.ifCond .lt 7, 3) := by decide +kernel
theorem dX11_readsPassage_151 : decode cX11_readsPassage 151 = .ok (.iconst 1, 1) := by decide +kernel
theorem dX11_readsPassage_152 : decode cX11_readsPassage 152 = .ok (.goto 4, 3) := by decide +kernel
theorem dX11_readsPassage_155 : decode cX11_readsPassage 155 = .ok (.iconst 0, 1) := by decide +kernel
theorem dX11_readsPassage_156 : decode cX11_readsPassage 156 = .ok (.ireturn, 1) := by decide +kernel
theorem dX11_passages_0 : decode cX11_passages 0 = .ok (.aload_n 0, 1) := by decide +kernel
theorem dX11_passages_1 : decode cX11_passages 1 = .ok (.iconst 0, 1) := by decide +kernel
theorem dX11_passages_2 : decode cX11_passages 2 = .ok (.putfield 3, 3) := by decide +kernel
theorem dX11_passages_5 : decode cX11_passages 5 = .ok (.aload_n 0, 1) := by decide +kernel
theorem dX11_passages_6 : decode cX11_passages 6 = .ok (.bipush 59, 2) := by decide +kernel
theorem dX11_passages_8 : decode cX11_passages 8 = .ok (.invokevirtual 192, 3) := by decide +kernel
theorem dX11_passages_11 : decode cX11_passages 11 = .ok (.istore_n 1, 1) := by decide +kernel
theorem dX11_passages_12 : decode cX11_passages 12 = .ok (.aload_n 0, 1) := by decide +kernel
theorem dX11_passages_13 : decode cX11_passages 13 = .ok (.iconst 0, 1) := by decide +kernel
theorem dX11_passages_14 : decode cX11_passages 14 = .ok (.putfield 181, 3) := by decide +kernel
theorem dX11_passages_17 : decode cX11_passages 17 = .ok (.iconst 1, 1) := by decide +kernel
theorem dX11_passages_18 : decode cX11_passages 18 = .ok (.istore_n 2, 1) := by decide +kernel
theorem dX11_passages_19 : decode cX11_passages 19 = .ok (.iload_n 1, 1) := by decide +kernel
theorem dX11_passages_20 : decode cX11_passages 20 = .ok (.ifCond .le 7, 3) := by decide +kernel
theorem dX11_passages_23 : decode cX11_passages 23 = .ok (.iconst 1, 1) := by decide +kernel
theorem dX11_passages_24 : decode cX11_passages 24 = .ok (.goto 4, 3) := by decide +kernel
theorem dX11_passages_27 : decode cX11_passages 27 = .ok (.iconst 0, 1) := by decide +kernel
theorem dX11_passages_28 : decode cX11_passages 28 = .ok (.istore_n 3, 1) := by decide +kernel
theorem dX11_passages_29 : decode cX11_passages 29 = .ok (.iload_n 3, 1) := by decide +kernel
theorem dX11_passages_30 : decode cX11_passages 30 = .ok (.ifCond .eq 30, 3) := by decide +kernel
theorem dX11_passages_33 : decode cX11_passages 33 = .ok (.aload_n 0, 1) := by decide +kernel
theorem dX11_passages_34 : decode cX11_passages 34 = .ok (.invokevirtual 195, 3) := by decide +kernel
theorem dX11_passages_37 : decode cX11_passages 37 = .ok (.istore_n 2, 1) := by decide +kernel
theorem dX11_passages_38 : decode cX11_passages 38 = .ok (.iload_n 2, 1) := by decide +kernel
theorem dX11_passages_39 : decode cX11_passages 39 = .ok (.ifCond .eq 16, 3) := by decide +kernel
theorem dX11_passages_42 : decode cX11_passages 42 = .ok (.aload_n 0, 1) := by decide +kernel
theorem dX11_passages_43 : decode cX11_passages 43 = .ok (.bipush 59, 2) := by decide +kernel
theorem dX11_passages_45 : decode cX11_passages 45 = .ok (.invokevirtual 198, 3) := by decide +kernel
theorem dX11_passages_48 : decode cX11_passages 48 = .ok (.ifCond .eq 7, 3) := by decide +kernel
theorem dX11_passages_51 : decode cX11_passages 51 = .ok (.iconst 1, 1) := by decide +kernel
theorem dX11_passages_52 : decode cX11_passages 52 = .ok (.goto 4, 3) := by decide +kernel
theorem dX11_passages_55 : decode cX11_passages 55 = .ok (.iconst 0, 1) := by decide +kernel
theorem dX11_passages_56 : decode cX11_passages 56 = .ok (.istore_n 3, 1) := by decide +kernel
theorem dX11_passages_57 : decode cX11_passages 57 = .ok (.goto (-28), 3) := by decide +kernel
theorem dX11_passages_60 : decode cX11_passages 60 = .ok (.aload_n 0, 1) := by decide +kernel
theorem dX11_passages_61 : decode cX11_passages 61 = .ok (.iload_n 1, 1) := by decide +kernel
theorem dX11_passages_62 : decode cX11_passages 62 = .ok (.bipush 59, 2) := by decide +kernel
theorem dX11_passages_64 : decode cX11_passages 64 = .ok (.iload_n 2, 1) := by decide +kernel
theorem dX11_passages_65 : decode cX11_passages 65 = .ok (.invokevirtual 202, 3) := by decide +kernel
theorem dX11_passages_68 : decode cX11_passages 68 = .ok (.istore 4, 2) := by decide +kernel
theorem dX11_passages_70 : decode cX11_passages 70 = .ok (.iload 4, 2) := by decide +kernel
theorem dX11_passages_72 : decode cX11_passages 72 = .ok (.ifCond .ge 6, 3) := by decide +kernel
theorem dX11_passages_75 : decode cX11_passages 75 = .ok (.iload 4, 2) := by decide +kernel
theorem dX11_passages_77 : decode cX11_passages 77 = .ok (.ireturn, 1) := by decide +kernel
theorem dX11_passages_78 : decode cX11_passages 78 = .ok (.iconst 0, 1) := by decide +kernel
theorem dX11_passages_79 : decode cX11_passages 79 = .ok (.istore 5, 2) := by decide +kernel
theorem dX11_passages_81 : decode cX11_passages 81 = .ok (.iload 5, 2) := by decide +kernel
theorem dX11_passages_83 : decode cX11_passages 83 = .ok (.aload_n 0, 1) := by decide +kernel
theorem dX11_passages_84 : decode cX11_passages 84 = .ok (.getfield 181, 3) := by decide +kernel
theorem dX11_passages_87 : decode cX11_passages 87 = .ok (.if_icmp .ge 129, 3) := by decide +kernel
theorem dX11_passages_90 : decode cX11_passages 90 = .ok (.aload_n 0, 1) := by decide +kernel
theorem dX11_passages_91 : decode cX11_passages 91 = .ok (.getfield 24, 3) := by decide +kernel
theorem dX11_passages_94 : decode cX11_passages 94 = .ok (.aload_n 0, 1) := by decide +kernel
theorem dX11_passages_95 : decode cX11_passages 95 = .ok (.getfield 128, 3) := by decide +kernel
theorem dX11_passages_98 : decode cX11_passages 98 = .ok (.aload_n 0, 1) := by decide +kernel
theorem dX11_passages_99 : decode cX11_passages 99 = .ok (.getfield 40, 3) := by decide +kernel
theorem dX11_passages_102 : decode cX11_passages 102 = .ok (.iconst 4, 1) := by decide +kernel
theorem dX11_passages_103 : decode cX11_passages 103 = .ok (.iload 5, 2) := by decide +kernel
theorem dX11_passages_105 : decode cX11_passages 105 = .ok (.imul, 1) := by decide +kernel
theorem dX11_passages_106 : decode cX11_passages 106 = .ok (.iaload, 1) := by decide +kernel
theorem dX11_passages_107 : decode cX11_passages 107 = .ok (.iastore, 1) := by decide +kernel
theorem dX11_passages_108 : decode cX11_passages 108 = .ok (.aload_n 0, 1) := by decide +kernel
theorem dX11_passages_109 : decode cX11_passages 109 = .ok (.getfield 28, 3) := by decide +kernel
theorem dX11_passages_112 : decode cX11_passages 112 = .ok (.aload_n 0, 1) := by decide +kernel
theorem dX11_passages_113 : decode cX11_passages 113 = .ok (.getfield 128, 3) := by decide +kernel
theorem dX11_passages_116 : decode cX11_passages 116 = .ok (.aload_n 0, 1) := by decide +kernel
theorem dX11_passages_117 : decode cX11_passages 117 = .ok (.getfield 40, 3) := by decide +kernel
theorem dX11_passages_120 : decode cX11_passages 120 = .ok (.iconst 4, 1) := by decide +kernel
theorem dX11_passages_121 : decode cX11_passages 121 = .ok (.iload 5, 2) := by decide +kernel
theorem dX11_passages_123 : decode cX11_passages 123 = .ok (.imul, 1) := by decide +kernel
theorem dX11_passages_124 : decode cX11_passages 124 = .ok (.iconst 1, 1) := by decide +kernel
theorem dX11_passages_125 : decode cX11_passages 125 = .ok (.iadd, 1) := by decide +kernel
theorem dX11_passages_126 : decode cX11_passages 126 = .ok (.iaload, 1) := by decide +kernel
theorem dX11_passages_127 : decode cX11_passages 127 = .ok (.iastore, 1) := by decide +kernel
theorem dX11_passages_128 : decode cX11_passages 128 = .ok (.aload_n 0, 1) := by decide +kernel
theorem dX11_passages_129 : decode cX11_passages 129 = .ok (.getfield 31, 3) := by decide +kernel
theorem dX11_passages_132 : decode cX11_passages 132 = .ok (.aload_n 0, 1) := by decide +kernel
theorem dX11_passages_133 : decode cX11_passages 133 = .ok (.getfield 128, 3) := by decide +kernel
theorem dX11_passages_136 : decode cX11_passages 136 = .ok (.aload_n 0, 1) := by decide +kernel
theorem dX11_passages_137 : decode cX11_passages 137 = .ok (.getfield 40, 3) := by decide +kernel
theorem dX11_passages_140 : decode cX11_passages 140 = .ok (.iconst 4, 1) := by decide +kernel
theorem dX11_passages_141 : decode cX11_passages 141 = .ok (.iload 5, 2) := by decide +kernel
theorem dX11_passages_143 : decode cX11_passages 143 = .ok (.imul, 1) := by decide +kernel
theorem dX11_passages_144 : decode cX11_passages 144 = .ok (.iconst 2, 1) := by decide +kernel
theorem dX11_passages_145 : decode cX11_passages 145 = .ok (.iadd, 1) := by decide +kernel
theorem dX11_passages_146 : decode cX11_passages 146 = .ok (.iaload, 1) := by decide +kernel
theorem dX11_passages_147 : decode cX11_passages 147 = .ok (.iastore, 1) := by decide +kernel
theorem dX11_passages_148 : decode cX11_passages 148 = .ok (.aload_n 0, 1) := by decide +kernel
theorem dX11_passages_149 : decode cX11_passages 149 = .ok (.getfield 31, 3) := by decide +kernel
theorem dX11_passages_152 : decode cX11_passages 152 = .ok (.bipush 12, 2) := by decide +kernel
theorem dX11_passages_154 : decode cX11_passages 154 = .ok (.aload_n 0, 1) := by decide +kernel
theorem dX11_passages_155 : decode cX11_passages 155 = .ok (.getfield 128, 3) := by decide +kernel
theorem dX11_passages_158 : decode cX11_passages 158 = .ok (.iadd, 1) := by decide +kernel
theorem dX11_passages_159 : decode cX11_passages 159 = .ok (.aload_n 0, 1) := by decide +kernel
theorem dX11_passages_160 : decode cX11_passages 160 = .ok (.getfield 40, 3) := by decide +kernel
theorem dX11_passages_163 : decode cX11_passages 163 = .ok (.iconst 4, 1) := by decide +kernel
theorem dX11_passages_164 : decode cX11_passages 164 = .ok (.iload 5, 2) := by decide +kernel
theorem dX11_passages_166 : decode cX11_passages 166 = .ok (.imul, 1) := by decide +kernel
theorem dX11_passages_167 : decode cX11_passages 167 = .ok (.iconst 3, 1) := by decide +kernel
theorem dX11_passages_168 : decode cX11_passages 168 = .ok (.iadd, 1) := by decide +kernel
theorem dX11_passages_169 : decode cX11_passages 169 = .ok (.iaload, 1) := by decide +kernel
theorem dX11_passages_170 : decode cX11_passages 170 = .ok (.iastore, 1) := by decide +kernel
theorem dX11_passages_171 : decode cX11_passages 171 = .ok (.aload_n 0, 1) := by decide +kernel
theorem dX11_passages_172 : decode cX11_passages 172 = .ok (.getfield 31, 3) := by decide +kernel
theorem dX11_passages_175 : decode cX11_passages 175 = .ok (.bipush 24, 2) := by decide +kernel
theorem dX11_passages_177 : decode cX11_passages 177 = .ok (.aload_n 0, 1) := by decide +kernel
theorem dX11_passages_178 : decode cX11_passages 178 = .ok (.getfield 128, 3) := by decide +kernel
theorem dX11_passages_181 : decode cX11_passages 181 = .ok (.iadd, 1) := by decide +kernel
theorem dX11_passages_182 : decode cX11_passages 182 = .ok (.iconst 0, 1) := by decide +kernel
theorem dX11_passages_183 : decode cX11_passages 183 = .ok (.iastore, 1) := by decide +kernel
theorem dX11_passages_184 : decode cX11_passages 184 = .ok (.aload_n 0, 1) := by decide +kernel
theorem dX11_passages_185 : decode cX11_passages 185 = .ok (.getfield 31, 3) := by decide +kernel
theorem dX11_passages_188 : decode cX11_passages 188 = .ok (.bipush 36, 2) := by decide +kernel
theorem dX11_passages_190 : decode cX11_passages 190 = .ok (.dup2, 1) := by decide +kernel
theorem dX11_passages_191 : decode cX11_passages 191 = .ok (.iaload, 1) := by decide +kernel
theorem dX11_passages_192 : decode cX11_passages 192 = .ok (.iconst 1, 1) := by decide +kernel
theorem dX11_passages_193 : decode cX11_passages 193 = .ok (.aload_n 0, 1) := by decide +kernel
theorem dX11_passages_194 : decode cX11_passages 194 = .ok (.getfield 128, 3) := by decide +kernel
theorem dX11_passages_197 : decode cX11_passages 197 = .ok (.ishl, 1) := by decide +kernel
theorem dX11_passages_198 : decode cX11_passages 198 = .ok (.ior, 1) := by decide +kernel
theorem dX11_passages_199 : decode cX11_passages 199 = .ok (.iastore, 1) := by decide +kernel
theorem dX11_passages_200 : decode cX11_passages 200 = .ok (.aload_n 0, 1) := by decide +kernel
theorem dX11_passages_201 : decode cX11_passages 201 = .ok (.dup, 1) := by decide +kernel
theorem dX11_passages_202 : decode cX11_passages 202 = .ok (.getfield 128, 3) := by decide +kernel
theorem dX11_passages_205 : decode cX11_passages 205 = .ok (.iconst 1, 1) := by decide +kernel
theorem dX11_passages_206 : decode cX11_passages 206 = .ok (.iadd, 1) := by decide +kernel
theorem dX11_passages_207 : decode cX11_passages 207 = .ok (.putfield 128, 3) := by decide +kernel
theorem dX11_passages_210 : decode cX11_passages 210 = .ok (.iinc 5 1, 3) := by decide +kernel
theorem dX11_passages_213 : decode cX11_passages 213 = .ok (.goto (-132), 3) := by decide +kernel
theorem dX11_passages_216 : decode cX11_passages 216 = .ok (.aload_n 0, 1) := by decide +kernel
theorem dX11_passages_217 : decode cX11_passages 217 = .ok (.aload_n 0, 1) := by decide +kernel
theorem dX11_passages_218 : decode cX11_passages 218 = .ok (.getfield 181, 3) := by decide +kernel
theorem dX11_passages_221 : decode cX11_passages 221 = .ok (.ifCond .le 7, 3) := by decide +kernel
theorem dX11_passages_224 : decode cX11_passages 224 = .ok (.iconst 0, 1) := by decide +kernel
theorem dX11_passages_225 : decode cX11_passages 225 = .ok (.goto 7, 3) := by decide +kernel
theorem dX11_passages_228 : decode cX11_passages 228 = .ok (.aload_n 0, 1) := by decide +kernel
theorem dX11_passages_229 : decode cX11_passages 229 = .ok (.getfield 206, 3) := by decide +kernel
theorem dX11_passages_232 : decode cX11_passages 232 = .ok (.putfield 206, 3) := by decide +kernel
theorem dX11_passages_235 : decode cX11_passages 235 = .ok (.aload_n 0, 1) := by decide +kernel
theorem dX11_passages_236 : decode cX11_passages 236 = .ok (.dup, 1) := by decide +kernel
theorem dX11_passages_237 : decode cX11_passages 237 = .ok (.getfield 209, 3) := by decide +kernel
theorem dX11_passages_240 : decode cX11_passages 240 = .ok (.aload_n 0, 1) := by decide +kernel
theorem dX11_passages_241 : decode cX11_passages 241 = .ok (.getfield 181, 3) := by decide +kernel
theorem dX11_passages_244 : decode cX11_passages 244 = .ok (.ifCond .le 7, 3) := by decide +kernel
theorem dX11_passages_247 : decode cX11_passages 247 = .ok (.iconst 1, 1) := by decide +kernel
theorem dX11_passages_248 : decode cX11_passages 248 = .ok (.goto 4, 3) := by decide +kernel
theorem dX11_passages_251 : decode cX11_passages 251 = .ok (.iconst 0, 1) := by decide +kernel
theorem dX11_passages_252 : decode cX11_passages 252 = .ok (.invokestatic 155, 3) := by decide +kernel
theorem dX11_passages_255 : decode cX11_passages 255 = .ok (.iadd, 1) := by decide +kernel
theorem dX11_passages_256 : decode cX11_passages 256 = .ok (.putfield 209, 3) := by decide +kernel
theorem dX11_passages_259 : decode cX11_passages 259 = .ok (.aload_n 0, 1) := by decide +kernel
theorem dX11_passages_260 : decode cX11_passages 260 = .ok (.getfield 181, 3) := by decide +kernel
theorem dX11_passages_263 : decode cX11_passages 263 = .ok (.ireturn, 1) := by decide +kernel
theorem dX11_codes_0 : decode cX11_codes 0 = .ok (.aload_n 0, 1) := by decide +kernel
theorem dX11_codes_1 : decode cX11_codes 1 = .ok (.getfield 46, 3) := by decide +kernel
theorem dX11_codes_4 : decode cX11_codes 4 = .ok (.aload_n 0, 1) := by decide +kernel
theorem dX11_codes_5 : decode cX11_codes 5 = .ok (.getfield 212, 3) := by decide +kernel
theorem dX11_codes_8 : decode cX11_codes 8 = .ok (.iload_n 1, 1) := by decide +kernel
theorem dX11_codes_9 : decode cX11_codes 9 = .ok (.iastore, 1) := by decide +kernel
theorem dX11_codes_10 : decode cX11_codes 10 = .ok (.aload_n 0, 1) := by decide +kernel
theorem dX11_codes_11 : decode cX11_codes 11 = .ok (.dup, 1) := by decide +kernel
theorem dX11_codes_12 : decode cX11_codes 12 = .ok (.getfield 212, 3) := by decide +kernel
theorem dX11_codes_15 : decode cX11_codes 15 = .ok (.iconst 1, 1) := by decide +kernel
theorem dX11_codes_16 : decode cX11_codes 16 = .ok (.iadd, 1) := by decide +kernel
theorem dX11_codes_17 : decode cX11_codes 17 = .ok (.putfield 212, 3) := by decide +kernel
theorem dX11_codes_20 : decode cX11_codes 20 = .ok (.return_, 1) := by decide +kernel
theorem dX11_readsThing_0 : decode cX11_readsThing 0 = .ok (.aload_n 0, 1) := by decide +kernel
theorem dX11_readsThing_1 : decode cX11_readsThing 1 = .ok (.bipush 45, 2) := by decide +kernel
theorem dX11_readsThing_3 : decode cX11_readsThing 3 = .ok (.invokevirtual 198, 3) := by decide +kernel
theorem dX11_readsThing_6 : decode cX11_readsThing 6 = .ok (.ifCond .eq 17, 3) := by decide +kernel
theorem dX11_readsThing_9 : decode cX11_readsThing 9 = .ok (.aload_n 0, 1) := by decide +kernel
theorem dX11_readsThing_10 : decode cX11_readsThing 10 = .ok (.invokevirtual 215, 3) := by decide +kernel
theorem dX11_readsThing_13 : decode cX11_readsThing 13 = .ok (.istore_n 1, 1) := by decide +kernel
theorem dX11_readsThing_14 : decode cX11_readsThing 14 = .ok (.aload_n 0, 1) := by decide +kernel
theorem dX11_readsThing_15 : decode cX11_readsThing 15 = .ok (.sipush 3000, 3) := by decide +kernel
theorem dX11_readsThing_18 : decode cX11_readsThing 18 = .ok (.invokevirtual 218, 3) := by decide +kernel
theorem dX11_readsThing_21 : decode cX11_readsThing 21 = .ok (.iload_n 1, 1) := by decide +kernel
theorem dX11_readsThing_22 : decode cX11_readsThing 22 = .ok (.ireturn, 1) := by decide +kernel
theorem dX11_readsThing_23 : decode cX11_readsThing 23 = .ok (.aload_n 0, 1) := by decide +kernel
theorem dX11_readsThing_24 : decode cX11_readsThing 24 = .ok (.invokevirtual 177, 3) := by decide +kernel
theorem dX11_readsThing_27 : decode cX11_readsThing 27 = .ok (.ifCond .eq 14, 3) := by decide +kernel
theorem dX11_readsThing_30 : decode cX11_readsThing 30 = .ok (.aload_n 0, 1) := by decide +kernel
theorem dX11_readsThing_31 : decode cX11_readsThing 31 = .ok (.aload_n 0, 1) := by decide +kernel
theorem dX11_readsThing_32 : decode cX11_readsThing 32 = .ok (.iconst 3, 1) := by decide +kernel
theorem dX11_readsThing_33 : decode cX11_readsThing 33 = .ok (.invokevirtual 188, 3) := by decide +kernel
theorem dX11_readsThing_36 : decode cX11_readsThing 36 = .ok (.invokevirtual 218, 3) := by decide +kernel
theorem dX11_readsThing_39 : decode cX11_readsThing 39 = .ok (.iconst 1, 1) := by decide +kernel
theorem dX11_readsThing_40 : decode cX11_readsThing 40 = .ok (.ireturn, 1) := by decide +kernel
theorem dX11_readsThing_41 : decode cX11_readsThing 41 = .ok (.aload_n 0, 1) := by decide +kernel
theorem dX11_readsThing_42 : decode cX11_readsThing 42 = .ok (.ldc 222, 2) := by decide +kernel
theorem dX11_readsThing_44 : decode cX11_readsThing 44 = .ok (.invokevirtual 224, 3) := by decide +kernel
theorem dX11_readsThing_47 : decode cX11_readsThing 47 = .ok (.istore_n 1, 1) := by decide +kernel
theorem dX11_readsThing_48 : decode cX11_readsThing 48 = .ok (.iload_n 1, 1) := by decide +kernel
theorem dX11_readsThing_49 : decode cX11_readsThing 49 = .ok (.ifCond .lt 14, 3) := by decide +kernel
theorem dX11_readsThing_52 : decode cX11_readsThing 52 = .ok (.aload_n 0, 1) := by decide +kernel
theorem dX11_readsThing_53 : decode cX11_readsThing 53 = .ok (.sipush 1000, 3) := by decide +kernel
theorem dX11_readsThing_56 : decode cX11_readsThing 56 = .ok (.iload_n 1, 1) := by decide +kernel
theorem dX11_readsThing_57 : decode cX11_readsThing 57 = .ok (.iadd, 1) := by decide +kernel
theorem dX11_readsThing_58 : decode cX11_readsThing 58 = .ok (.invokevirtual 218, 3) := by decide +kernel
theorem dX11_readsThing_61 : decode cX11_readsThing 61 = .ok (.iconst 1, 1) := by decide +kernel
theorem dX11_readsThing_62 : decode cX11_readsThing 62 = .ok (.ireturn, 1) := by decide +kernel
theorem dX11_readsThing_63 : decode cX11_readsThing 63 = .ok (.aload_n 0, 1) := by decide +kernel
theorem dX11_readsThing_64 : decode cX11_readsThing 64 = .ok (.getfield 143, 3) := by decide +kernel
theorem dX11_readsThing_67 : decode cX11_readsThing 67 = .ok (.iconst 4, 1) := by decide +kernel
theorem dX11_readsThing_68 : decode cX11_readsThing 68 = .ok (.if_icmp .eq 12, 3) := by decide +kernel
theorem dX11_readsThing_71 : decode cX11_readsThing 71 = .ok (.aload_n 0, 1) := by decide +kernel
theorem dX11_readsThing_72 : decode cX11_readsThing 72 = .ok (.bipush 40, 2) := by decide +kernel
theorem dX11_readsThing_74 : decode cX11_readsThing 74 = .ok (.invokevirtual 198, 3) := by decide +kernel
theorem dX11_readsThing_77 : decode cX11_readsThing 77 = .ok (.ifCond .ne 5, 3) := by decide +kernel
theorem dX11_readsThing_80 : decode cX11_readsThing 80 = .ok (.iconst 0, 1) := by decide +kernel
theorem dX11_readsThing_81 : decode cX11_readsThing 81 = .ok (.ireturn, 1) := by decide +kernel
theorem dX11_readsThing_82 : decode cX11_readsThing 82 = .ok (.aload_n 0, 1) := by decide +kernel
theorem dX11_readsThing_83 : decode cX11_readsThing 83 = .ok (.dup, 1) := by decide +kernel
theorem dX11_readsThing_84 : decode cX11_readsThing 84 = .ok (.getfield 143, 3) := by decide +kernel
theorem dX11_readsThing_87 : decode cX11_readsThing 87 = .ok (.iconst 1, 1) := by decide +kernel
theorem dX11_readsThing_88 : decode cX11_readsThing 88 = .ok (.iadd, 1) := by decide +kernel
theorem dX11_readsThing_89 : decode cX11_readsThing 89 = .ok (.putfield 143, 3) := by decide +kernel
theorem dX11_readsThing_92 : decode cX11_readsThing 92 = .ok (.aload_n 0, 1) := by decide +kernel
theorem dX11_readsThing_93 : decode cX11_readsThing 93 = .ok (.iconst 0, 1) := by decide +kernel
theorem dX11_readsThing_94 : decode cX11_readsThing 94 = .ok (.invokevirtual 228, 3) := by decide +kernel
theorem dX11_readsThing_97 : decode cX11_readsThing 97 = .ok (.ifCond .eq 12, 3) := by decide +kernel
theorem dX11_readsThing_100 : decode cX11_readsThing 100 = .ok (.aload_n 0, 1) := by decide +kernel
theorem dX11_readsThing_101 : decode cX11_readsThing 101 = .ok (.bipush 41, 2) := by decide +kernel
theorem dX11_readsThing_103 : decode cX11_readsThing 103 = .ok (.invokevirtual 198, 3) := by decide +kernel
theorem dX11_readsThing_106 : decode cX11_readsThing 106 = .ok (.ifCond .ne 5, 3) := by decide +kernel
theorem dX11_readsThing_109 : decode cX11_readsThing 109 = .ok (.iconst 0, 1) := by decide +kernel
theorem dX11_readsThing_110 : decode cX11_readsThing 110 = .ok (.ireturn, 1) := by decide +kernel
theorem dX11_readsThing_111 : decode cX11_readsThing 111 = .ok (.aload_n 0, 1) := by decide +kernel
theorem dX11_readsThing_112 : decode cX11_readsThing 112 = .ok (.dup, 1) := by decide +kernel
theorem dX11_readsThing_113 : decode cX11_readsThing 113 = .ok (.getfield 143, 3) := by decide +kernel
theorem dX11_readsThing_116 : decode cX11_readsThing 116 = .ok (.iconst 1, 1) := by decide +kernel
theorem dX11_readsThing_117 : decode cX11_readsThing 117 = .ok (.isub, 1) := by decide +kernel
theorem dX11_readsThing_118 : decode cX11_readsThing 118 = .ok (.putfield 143, 3) := by decide +kernel
theorem dX11_readsThing_121 : decode cX11_readsThing 121 = .ok (.iconst 1, 1) := by decide +kernel
theorem dX11_readsThing_122 : decode cX11_readsThing 122 = .ok (.ireturn, 1) := by decide +kernel
theorem dX11_readsRank_0 : decode cX11_readsRank 0 = .ok (.iload_n 1, 1) := by decide +kernel
theorem dX11_readsRank_1 : decode cX11_readsRank 1 = .ok (.iconst 3, 1) := by decide +kernel
theorem dX11_readsRank_2 : decode cX11_readsRank 2 = .ok (.if_icmp .ne 8, 3) := by decide +kernel
theorem dX11_readsRank_5 : decode cX11_readsRank 5 = .ok (.aload_n 0, 1) := by decide +kernel
theorem dX11_readsRank_6 : decode cX11_readsRank 6 = .ok (.invokevirtual 215, 3) := by decide +kernel
theorem dX11_readsRank_9 : decode cX11_readsRank 9 = .ok (.ireturn, 1) := by decide +kernel
theorem dX11_readsRank_10 : decode cX11_readsRank 10 = .ok (.aload_n 0, 1) := by decide +kernel
theorem dX11_readsRank_11 : decode cX11_readsRank 11 = .ok (.iload_n 1, 1) := by decide +kernel
theorem dX11_readsRank_12 : decode cX11_readsRank 12 = .ok (.iconst 1, 1) := by decide +kernel
theorem dX11_readsRank_13 : decode cX11_readsRank 13 = .ok (.iadd, 1) := by decide +kernel
theorem dX11_readsRank_14 : decode cX11_readsRank 14 = .ok (.invokevirtual 228, 3) := by decide +kernel
theorem dX11_readsRank_17 : decode cX11_readsRank 17 = .ok (.ifCond .ne 5, 3) := by decide +kernel
theorem dX11_readsRank_20 : decode cX11_readsRank 20 = .ok (.iconst 0, 1) := by decide +kernel
theorem dX11_readsRank_21 : decode cX11_readsRank 21 = .ok (.ireturn, 1) := by decide +kernel
theorem dX11_readsRank_22 : decode cX11_readsRank 22 = .ok (.iconst 1, 1) := by decide +kernel
theorem dX11_readsRank_23 : decode cX11_readsRank 23 = .ok (.istore_n 2, 1) := by decide +kernel
theorem dX11_readsRank_24 : decode cX11_readsRank 24 = .ok (.iload_n 2, 1) := by decide +kernel
theorem dX11_readsRank_25 : decode cX11_readsRank 25 = .ok (.ifCond .eq 88, 3) := by decide +kernel
theorem dX11_readsRank_28 : decode cX11_readsRank 28 = .ok (.aload_n 0, 1) := by decide +kernel
theorem dX11_readsRank_29 : decode cX11_readsRank 29 = .ok (.iload_n 1, 1) := by decide +kernel
theorem dX11_readsRank_30 : decode cX11_readsRank 30 = .ok (.ifCond .ne 8, 3) := by decide +kernel
theorem dX11_readsRank_33 : decode cX11_readsRank 33 = .ok (.ldc 231, 2) := by decide +kernel
theorem dX11_readsRank_35 : decode cX11_readsRank 35 = .ok (.goto 15, 3) := by decide +kernel
theorem dX11_readsRank_38 : decode cX11_readsRank 38 = .ok (.iload_n 1, 1) := by decide +kernel
theorem dX11_readsRank_39 : decode cX11_readsRank 39 = .ok (.iconst 1, 1) := by decide +kernel
theorem dX11_readsRank_40 : decode cX11_readsRank 40 = .ok (.if_icmp .ne 8, 3) := by decide +kernel
theorem dX11_readsRank_43 : decode cX11_readsRank 43 = .ok (.ldc 233, 2) := by decide +kernel
theorem dX11_readsRank_45 : decode cX11_readsRank 45 = .ok (.goto 5, 3) := by decide +kernel
theorem dX11_readsRank_48 : decode cX11_readsRank 48 = .ok (.ldc 235, 2) := by decide +kernel
theorem dX11_readsRank_50 : decode cX11_readsRank 50 = .ok (.invokevirtual 224, 3) := by decide +kernel
theorem dX11_readsRank_53 : decode cX11_readsRank 53 = .ok (.istore_n 3, 1) := by decide +kernel
theorem dX11_readsRank_54 : decode cX11_readsRank 54 = .ok (.iload_n 3, 1) := by decide +kernel
theorem dX11_readsRank_55 : decode cX11_readsRank 55 = .ok (.ifCond .ge 5, 3) := by decide +kernel
theorem dX11_readsRank_58 : decode cX11_readsRank 58 = .ok (.iconst 1, 1) := by decide +kernel
theorem dX11_readsRank_59 : decode cX11_readsRank 59 = .ok (.ireturn, 1) := by decide +kernel
theorem dX11_readsRank_60 : decode cX11_readsRank 60 = .ok (.aload_n 0, 1) := by decide +kernel
theorem dX11_readsRank_61 : decode cX11_readsRank 61 = .ok (.iload_n 1, 1) := by decide +kernel
theorem dX11_readsRank_62 : decode cX11_readsRank 62 = .ok (.iconst 1, 1) := by decide +kernel
theorem dX11_readsRank_63 : decode cX11_readsRank 63 = .ok (.iadd, 1) := by decide +kernel
theorem dX11_readsRank_64 : decode cX11_readsRank 64 = .ok (.invokevirtual 228, 3) := by decide +kernel
theorem dX11_readsRank_67 : decode cX11_readsRank 67 = .ok (.ifCond .ne 5, 3) := by decide +kernel
theorem dX11_readsRank_70 : decode cX11_readsRank 70 = .ok (.iconst 0, 1) := by decide +kernel
theorem dX11_readsRank_71 : decode cX11_readsRank 71 = .ok (.ireturn, 1) := by decide +kernel
theorem dX11_readsRank_72 : decode cX11_readsRank 72 = .ok (.aload_n 0, 1) := by decide +kernel
theorem dX11_readsRank_73 : decode cX11_readsRank 73 = .ok (.sipush 2000, 3) := by decide +kernel
theorem dX11_readsRank_76 : decode cX11_readsRank 76 = .ok (.iload_n 3, 1) := by decide +kernel
theorem dX11_readsRank_77 : decode cX11_readsRank 77 = .ok (.iadd, 1) := by decide +kernel
theorem dX11_readsRank_78 : decode cX11_readsRank 78 = .ok (.iload_n 1, 1) := by decide +kernel
theorem dX11_readsRank_79 : decode cX11_readsRank 79 = .ok (.ifCond .ne 7, 3) := by decide +kernel
theorem dX11_readsRank_82 : decode cX11_readsRank 82 = .ok (.iconst 0, 1) := by decide +kernel
theorem dX11_readsRank_83 : decode cX11_readsRank 83 = .ok (.goto 13, 3) := by decide +kernel
theorem dX11_readsRank_86 : decode cX11_readsRank 86 = .ok (.iload_n 1, 1) := by decide +kernel
theorem dX11_readsRank_87 : decode cX11_readsRank 87 = .ok (.iconst 1, 1) := by decide +kernel
theorem dX11_readsRank_88 : decode cX11_readsRank 88 = .ok (.if_icmp .ne 7, 3) := by decide +kernel
theorem dX11_readsRank_91 : decode cX11_readsRank 91 = .ok (.iconst 3, 1) := by decide +kernel
theorem dX11_readsRank_92 : decode cX11_readsRank 92 = .ok (.goto 4, 3) := by decide +kernel
theorem dX11_readsRank_95 : decode cX11_readsRank 95 = .ok (.iconst 5, 1) := by decide +kernel
theorem dX11_readsRank_96 : decode cX11_readsRank 96 = .ok (.iadd, 1) := by decide +kernel
theorem dX11_readsRank_97 : decode cX11_readsRank 97 = .ok (.invokevirtual 218, 3) := by decide +kernel
theorem dX11_readsRank_100 : decode cX11_readsRank 100 = .ok (.iload_n 1, 1) := by decide +kernel
theorem dX11_readsRank_101 : decode cX11_readsRank 101 = .ok (.ifCond .le 7, 3) := by decide +kernel
theorem dX11_readsRank_104 : decode cX11_readsRank 104 = .ok (.iconst 1, 1) := by decide +kernel
theorem dX11_readsRank_105 : decode cX11_readsRank 105 = .ok (.goto 4, 3) := by decide +kernel
theorem dX11_readsRank_108 : decode cX11_readsRank 108 = .ok (.iconst 0, 1) := by decide +kernel
theorem dX11_readsRank_109 : decode cX11_readsRank 109 = .ok (.istore_n 2, 1) := by decide +kernel
theorem dX11_readsRank_110 : decode cX11_readsRank 110 = .ok (.goto (-86), 3) := by decide +kernel
theorem dX11_readsRank_113 : decode cX11_readsRank 113 = .ok (.iconst 1, 1) := by decide +kernel
theorem dX11_readsRank_114 : decode cX11_readsRank 114 = .ok (.ireturn, 1) := by decide +kernel
theorem dX11_readsRule_0 : decode cX11_readsRule 0 = .ok (.aload_n 0, 1) := by decide +kernel
theorem dX11_readsRule_1 : decode cX11_readsRule 1 = .ok (.bipush 40, 2) := by decide +kernel
theorem dX11_readsRule_3 : decode cX11_readsRule 3 = .ok (.invokevirtual 192, 3) := by decide +kernel
theorem dX11_readsRule_6 : decode cX11_readsRule 6 = .ok (.istore_n 1, 1) := by decide +kernel
theorem dX11_readsRule_7 : decode cX11_readsRule 7 = .ok (.aload_n 0, 1) := by decide +kernel
theorem dX11_readsRule_8 : decode cX11_readsRule 8 = .ok (.iconst 0, 1) := by decide +kernel
theorem dX11_readsRule_9 : decode cX11_readsRule 9 = .ok (.putfield 212, 3) := by decide +kernel
theorem dX11_readsRule_12 : decode cX11_readsRule 12 = .ok (.iload_n 1, 1) := by decide +kernel
theorem dX11_readsRule_13 : decode cX11_readsRule 13 = .ok (.ifCond .eq 11, 3) := by decide +kernel
theorem dX11_readsRule_16 : decode cX11_readsRule 16 = .ok (.aload_n 0, 1) := by decide +kernel
theorem dX11_readsRule_17 : decode cX11_readsRule 17 = .ok (.iconst 0, 1) := by decide +kernel
theorem dX11_readsRule_18 : decode cX11_readsRule 18 = .ok (.invokevirtual 228, 3) := by decide +kernel
theorem dX11_readsRule_21 : decode cX11_readsRule 21 = .ok (.ifCond .eq 7, 3) := by decide +kernel
theorem dX11_readsRule_24 : decode cX11_readsRule 24 = .ok (.iconst 1, 1) := by decide +kernel
theorem dX11_readsRule_25 : decode cX11_readsRule 25 = .ok (.goto 4, 3) := by decide +kernel
theorem dX11_readsRule_28 : decode cX11_readsRule 28 = .ok (.iconst 0, 1) := by decide +kernel
theorem dX11_readsRule_29 : decode cX11_readsRule 29 = .ok (.istore_n 2, 1) := by decide +kernel
theorem dX11_readsRule_30 : decode cX11_readsRule 30 = .ok (.aload_n 0, 1) := by decide +kernel
theorem dX11_readsRule_31 : decode cX11_readsRule 31 = .ok (.iload_n 1, 1) := by decide +kernel
theorem dX11_readsRule_32 : decode cX11_readsRule 32 = .ok (.bipush 40, 2) := by decide +kernel
theorem dX11_readsRule_34 : decode cX11_readsRule 34 = .ok (.iload_n 2, 1) := by decide +kernel
theorem dX11_readsRule_35 : decode cX11_readsRule 35 = .ok (.invokevirtual 202, 3) := by decide +kernel
theorem dX11_readsRule_38 : decode cX11_readsRule 38 = .ok (.ireturn, 1) := by decide +kernel
theorem dX11_laysCode_0 : decode cX11_laysCode 0 = .ok (.aload_n 0, 1) := by decide +kernel
theorem dX11_laysCode_1 : decode cX11_laysCode 1 = .ok (.iload_n 2, 1) := by decide +kernel
theorem dX11_laysCode_2 : decode cX11_laysCode 2 = .ok (.putfield 237, 3) := by decide +kernel
theorem dX11_laysCode_5 : decode cX11_laysCode 5 = .ok (.iconst 0, 1) := by decide +kernel
theorem dX11_laysCode_6 : decode cX11_laysCode 6 = .ok (.istore_n 3, 1) := by decide +kernel
theorem dX11_laysCode_7 : decode cX11_laysCode 7 = .ok (.iload_n 3, 1) := by decide +kernel
theorem dX11_laysCode_8 : decode cX11_laysCode 8 = .ok (.iload_n 2, 1) := by decide +kernel
theorem dX11_laysCode_9 : decode cX11_laysCode 9 = .ok (.if_icmp .ge 18, 3) := by decide +kernel
theorem dX11_laysCode_12 : decode cX11_laysCode 12 = .ok (.aload_n 0, 1) := by decide +kernel
theorem dX11_laysCode_13 : decode cX11_laysCode 13 = .ok (.getfield 43, 3) := by decide +kernel
theorem dX11_laysCode_16 : decode cX11_laysCode 16 = .ok (.iload_n 3, 1) := by decide +kernel
theorem dX11_laysCode_17 : decode cX11_laysCode 17 = .ok (.aload_n 1, 1) := by decide +kernel
theorem dX11_laysCode_18 : decode cX11_laysCode 18 = .ok (.iload_n 3, 1) := by decide +kernel
theorem dX11_laysCode_19 : decode cX11_laysCode 19 = .ok (.iaload, 1) := by decide +kernel
theorem dX11_laysCode_20 : decode cX11_laysCode 20 = .ok (.iastore, 1) := by decide +kernel
theorem dX11_laysCode_21 : decode cX11_laysCode 21 = .ok (.iinc 3 1, 3) := by decide +kernel
theorem dX11_laysCode_24 : decode cX11_laysCode 24 = .ok (.goto (-17), 3) := by decide +kernel
theorem dX11_laysCode_27 : decode cX11_laysCode 27 = .ok (.return_, 1) := by decide +kernel
theorem dX11_rule_0 : decode cX11_rule 0 = .ok (.aload_n 0, 1) := by decide +kernel
theorem dX11_rule_1 : decode cX11_rule 1 = .ok (.iconst 0, 1) := by decide +kernel
theorem dX11_rule_2 : decode cX11_rule 2 = .ok (.putfield 3, 3) := by decide +kernel
theorem dX11_rule_5 : decode cX11_rule 5 = .ok (.aload_n 0, 1) := by decide +kernel
theorem dX11_rule_6 : decode cX11_rule 6 = .ok (.invokevirtual 240, 3) := by decide +kernel
theorem dX11_rule_9 : decode cX11_rule 9 = .ok (.istore_n 1, 1) := by decide +kernel
theorem dX11_rule_10 : decode cX11_rule 10 = .ok (.iload_n 1, 1) := by decide +kernel
theorem dX11_rule_11 : decode cX11_rule 11 = .ok (.ifCond .ne 15, 3) := by decide +kernel
theorem dX11_rule_14 : decode cX11_rule 14 = .ok (.aload_n 0, 1) := by decide +kernel
theorem dX11_rule_15 : decode cX11_rule 15 = .ok (.aload_n 0, 1) := by decide +kernel
theorem dX11_rule_16 : decode cX11_rule 16 = .ok (.getfield 46, 3) := by decide +kernel
theorem dX11_rule_19 : decode cX11_rule 19 = .ok (.aload_n 0, 1) := by decide +kernel
theorem dX11_rule_20 : decode cX11_rule 20 = .ok (.getfield 212, 3) := by decide +kernel
theorem dX11_rule_23 : decode cX11_rule 23 = .ok (.invokevirtual 243, 3) := by decide +kernel
theorem dX11_rule_26 : decode cX11_rule 26 = .ok (.iload_n 1, 1) := by decide +kernel
theorem dX11_rule_27 : decode cX11_rule 27 = .ok (.ireturn, 1) := by decide +kernel
theorem dX11_worked_0 : decode cX11_worked 0 = .ok (.iload_n 0, 1) := by decide +kernel
theorem dX11_worked_1 : decode cX11_worked 1 = .ok (.tableswitch 93 0 5 #[39, 53, 67, 81, 85, 89], 39) := by decide +kernel
theorem dX11_worked_40 : decode cX11_worked 40 = .ok (.iload_n 1, 1) := by decide +kernel
theorem dX11_worked_41 : decode cX11_worked 41 = .ok (.iload_n 2, 1) := by decide +kernel
theorem dX11_worked_42 : decode cX11_worked 42 = .ok (.if_icmp .ge 7, 3) := by decide +kernel
theorem dX11_worked_45 : decode cX11_worked 45 = .ok (.iconst 1, 1) := by decide +kernel
theorem dX11_worked_46 : decode cX11_worked 46 = .ok (.goto 4, 3) := by decide +kernel
theorem dX11_worked_49 : decode cX11_worked 49 = .ok (.iconst 0, 1) := by decide +kernel
theorem dX11_worked_50 : decode cX11_worked 50 = .ok (.invokestatic 155, 3) := by decide +kernel
theorem dX11_worked_53 : decode cX11_worked 53 = .ok (.ireturn, 1) := by decide +kernel
theorem dX11_worked_54 : decode cX11_worked 54 = .ok (.iload_n 1, 1) := by decide +kernel
theorem dX11_worked_55 : decode cX11_worked 55 = .ok (.iload_n 2, 1) := by decide +kernel
theorem dX11_worked_56 : decode cX11_worked 56 = .ok (.if_icmp .le 7, 3) := by decide +kernel
theorem dX11_worked_59 : decode cX11_worked 59 = .ok (.iconst 1, 1) := by decide +kernel
theorem dX11_worked_60 : decode cX11_worked 60 = .ok (.goto 4, 3) := by decide +kernel
theorem dX11_worked_63 : decode cX11_worked 63 = .ok (.iconst 0, 1) := by decide +kernel
theorem dX11_worked_64 : decode cX11_worked 64 = .ok (.invokestatic 155, 3) := by decide +kernel
theorem dX11_worked_67 : decode cX11_worked 67 = .ok (.ireturn, 1) := by decide +kernel
theorem dX11_worked_68 : decode cX11_worked 68 = .ok (.iload_n 1, 1) := by decide +kernel
theorem dX11_worked_69 : decode cX11_worked 69 = .ok (.iload_n 2, 1) := by decide +kernel
theorem dX11_worked_70 : decode cX11_worked 70 = .ok (.if_icmp .ne 7, 3) := by decide +kernel
theorem dX11_worked_73 : decode cX11_worked 73 = .ok (.iconst 1, 1) := by decide +kernel
theorem dX11_worked_74 : decode cX11_worked 74 = .ok (.goto 4, 3) := by decide +kernel
theorem dX11_worked_77 : decode cX11_worked 77 = .ok (.iconst 0, 1) := by decide +kernel
theorem dX11_worked_78 : decode cX11_worked 78 = .ok (.invokestatic 155, 3) := by decide +kernel
theorem dX11_worked_81 : decode cX11_worked 81 = .ok (.ireturn, 1) := by decide +kernel
theorem dX11_worked_82 : decode cX11_worked 82 = .ok (.iload_n 1, 1) := by decide +kernel
theorem dX11_worked_83 : decode cX11_worked 83 = .ok (.iload_n 2, 1) := by decide +kernel
theorem dX11_worked_84 : decode cX11_worked 84 = .ok (.iadd, 1) := by decide +kernel
theorem dX11_worked_85 : decode cX11_worked 85 = .ok (.ireturn, 1) := by decide +kernel
theorem dX11_worked_86 : decode cX11_worked 86 = .ok (.iload_n 1, 1) := by decide +kernel
theorem dX11_worked_87 : decode cX11_worked 87 = .ok (.iload_n 2, 1) := by decide +kernel
theorem dX11_worked_88 : decode cX11_worked 88 = .ok (.isub, 1) := by decide +kernel
theorem dX11_worked_89 : decode cX11_worked 89 = .ok (.ireturn, 1) := by decide +kernel
theorem dX11_worked_90 : decode cX11_worked 90 = .ok (.iload_n 1, 1) := by decide +kernel
theorem dX11_worked_91 : decode cX11_worked 91 = .ok (.iload_n 2, 1) := by decide +kernel
theorem dX11_worked_92 : decode cX11_worked 92 = .ok (.imul, 1) := by decide +kernel
theorem dX11_worked_93 : decode cX11_worked 93 = .ok (.ireturn, 1) := by decide +kernel
theorem dX11_worked_94 : decode cX11_worked 94 = .ok (.iload_n 2, 1) := by decide +kernel
theorem dX11_worked_95 : decode cX11_worked 95 = .ok (.ifCond .ne 7, 3) := by decide +kernel
theorem dX11_worked_98 : decode cX11_worked 98 = .ok (.iconst 0, 1) := by decide +kernel
theorem dX11_worked_99 : decode cX11_worked 99 = .ok (.goto 6, 3) := by decide +kernel
theorem dX11_worked_102 : decode cX11_worked 102 = .ok (.iload_n 1, 1) := by decide +kernel
theorem dX11_worked_103 : decode cX11_worked 103 = .ok (.iload_n 2, 1) := by decide +kernel
theorem dX11_worked_104 : decode cX11_worked 104 = .ok (.idiv, 1) := by decide +kernel
theorem dX11_worked_105 : decode cX11_worked 105 = .ok (.ireturn, 1) := by decide +kernel
theorem dX11_ruled_0 : decode cX11_ruled 0 = .ok (.iconst 0, 1) := by decide +kernel
theorem dX11_ruled_1 : decode cX11_ruled 1 = .ok (.istore_n 1, 1) := by decide +kernel
theorem dX11_ruled_2 : decode cX11_ruled 2 = .ok (.iconst 0, 1) := by decide +kernel
theorem dX11_ruled_3 : decode cX11_ruled 3 = .ok (.istore_n 2, 1) := by decide +kernel
theorem dX11_ruled_4 : decode cX11_ruled 4 = .ok (.iload_n 2, 1) := by decide +kernel
theorem dX11_ruled_5 : decode cX11_ruled 5 = .ok (.aload_n 0, 1) := by decide +kernel
theorem dX11_ruled_6 : decode cX11_ruled 6 = .ok (.getfield 237, 3) := by decide +kernel
theorem dX11_ruled_9 : decode cX11_ruled 9 = .ok (.if_icmp .ge 116, 3) := by decide +kernel
theorem dX11_ruled_12 : decode cX11_ruled 12 = .ok (.aload_n 0, 1) := by decide +kernel
theorem dX11_ruled_13 : decode cX11_ruled 13 = .ok (.getfield 43, 3) := by decide +kernel
theorem dX11_ruled_16 : decode cX11_ruled 16 = .ok (.iload_n 2, 1) := by decide +kernel
theorem dX11_ruled_17 : decode cX11_ruled 17 = .ok (.iaload, 1) := by decide +kernel
theorem dX11_ruled_18 : decode cX11_ruled 18 = .ok (.istore_n 3, 1) := by decide +kernel
theorem dX11_ruled_19 : decode cX11_ruled 19 = .ok (.iload_n 3, 1) := by decide +kernel
theorem dX11_ruled_20 : decode cX11_ruled 20 = .ok (.sipush 3000, 3) := by decide +kernel
theorem dX11_ruled_23 : decode cX11_ruled 23 = .ok (.if_icmp .ne 23, 3) := by decide +kernel
theorem dX11_ruled_26 : decode cX11_ruled 26 = .ok (.aload_n 0, 1) := by decide +kernel
theorem dX11_ruled_27 : decode cX11_ruled 27 = .ok (.getfield 49, 3) := by decide +kernel
theorem dX11_ruled_30 : decode cX11_ruled 30 = .ok (.iload_n 1, 1) := by decide +kernel
theorem dX11_ruled_31 : decode cX11_ruled 31 = .ok (.iconst 1, 1) := by decide +kernel
theorem dX11_ruled_32 : decode cX11_ruled 32 = .ok (.isub, 1) := by decide +kernel
theorem dX11_ruled_33 : decode cX11_ruled 33 = .ok (.aload_n 0, 1) := by decide +kernel
theorem dX11_ruled_34 : decode cX11_ruled 34 = .ok (.getfield 49, 3) := by decide +kernel
theorem dX11_ruled_37 : decode cX11_ruled 37 = .ok (.iload_n 1, 1) := by decide +kernel
theorem dX11_ruled_38 : decode cX11_ruled 38 = .ok (.iconst 1, 1) := by decide +kernel
theorem dX11_ruled_39 : decode cX11_ruled 39 = .ok (.isub, 1) := by decide +kernel
theorem dX11_ruled_40 : decode cX11_ruled 40 = .ok (.iaload, 1) := by decide +kernel
theorem dX11_ruled_41 : decode cX11_ruled 41 = .ok (.ineg, 1) := by decide +kernel
theorem dX11_ruled_42 : decode cX11_ruled 42 = .ok (.iastore, 1) := by decide +kernel
theorem dX11_ruled_43 : decode cX11_ruled 43 = .ok (.goto 76, 3) := by decide +kernel
theorem dX11_ruled_46 : decode cX11_ruled 46 = .ok (.iload_n 3, 1) := by decide +kernel
theorem dX11_ruled_47 : decode cX11_ruled 47 = .ok (.sipush 2000, 3) := by decide +kernel
theorem dX11_ruled_50 : decode cX11_ruled 50 = .ok (.if_icmp .lt 39, 3) := by decide +kernel
theorem dX11_ruled_53 : decode cX11_ruled 53 = .ok (.iinc 1 (-1), 3) := by decide +kernel
theorem dX11_ruled_56 : decode cX11_ruled 56 = .ok (.aload_n 0, 1) := by decide +kernel
theorem dX11_ruled_57 : decode cX11_ruled 57 = .ok (.getfield 49, 3) := by decide +kernel
theorem dX11_ruled_60 : decode cX11_ruled 60 = .ok (.iload_n 1, 1) := by decide +kernel
theorem dX11_ruled_61 : decode cX11_ruled 61 = .ok (.iconst 1, 1) := by decide +kernel
theorem dX11_ruled_62 : decode cX11_ruled 62 = .ok (.isub, 1) := by decide +kernel
theorem dX11_ruled_63 : decode cX11_ruled 63 = .ok (.iload_n 3, 1) := by decide +kernel
theorem dX11_ruled_64 : decode cX11_ruled 64 = .ok (.sipush 2000, 3) := by decide +kernel
theorem dX11_ruled_67 : decode cX11_ruled 67 = .ok (.isub, 1) := by decide +kernel
theorem dX11_ruled_68 : decode cX11_ruled 68 = .ok (.aload_n 0, 1) := by decide +kernel
theorem dX11_ruled_69 : decode cX11_ruled 69 = .ok (.getfield 49, 3) := by decide +kernel
theorem dX11_ruled_72 : decode cX11_ruled 72 = .ok (.iload_n 1, 1) := by decide +kernel
theorem dX11_ruled_73 : decode cX11_ruled 73 = .ok (.iconst 1, 1) := by decide +kernel
theorem dX11_ruled_74 : decode cX11_ruled 74 = .ok (.isub, 1) := by decide +kernel
theorem dX11_ruled_75 : decode cX11_ruled 75 = .ok (.iaload, 1) := by decide +kernel
theorem dX11_ruled_76 : decode cX11_ruled 76 = .ok (.aload_n 0, 1) := by decide +kernel
theorem dX11_ruled_77 : decode cX11_ruled 77 = .ok (.getfield 49, 3) := by decide +kernel
theorem dX11_ruled_80 : decode cX11_ruled 80 = .ok (.iload_n 1, 1) := by decide +kernel
theorem dX11_ruled_81 : decode cX11_ruled 81 = .ok (.iaload, 1) := by decide +kernel
theorem dX11_ruled_82 : decode cX11_ruled 82 = .ok (.invokestatic 247, 3) := by decide +kernel
theorem dX11_ruled_85 : decode cX11_ruled 85 = .ok (.iastore, 1) := by decide +kernel
theorem dX11_ruled_86 : decode cX11_ruled 86 = .ok (.goto 33, 3) := by decide +kernel
theorem dX11_ruled_89 : decode cX11_ruled 89 = .ok (.aload_n 0, 1) := by decide +kernel
theorem dX11_ruled_90 : decode cX11_ruled 90 = .ok (.getfield 49, 3) := by decide +kernel
theorem dX11_ruled_93 : decode cX11_ruled 93 = .ok (.iload_n 1, 1) := by decide +kernel
theorem dX11_ruled_94 : decode cX11_ruled 94 = .ok (.iload_n 3, 1) := by decide +kernel
theorem dX11_ruled_95 : decode cX11_ruled 95 = .ok (.sipush 1000, 3) := by decide +kernel
theorem dX11_ruled_98 : decode cX11_ruled 98 = .ok (.if_icmp .lt 16, 3) := by decide +kernel
theorem dX11_ruled_101 : decode cX11_ruled 101 = .ok (.aload_n 0, 1) := by decide +kernel
theorem dX11_ruled_102 : decode cX11_ruled 102 = .ok (.getfield 52, 3) := by decide +kernel
theorem dX11_ruled_105 : decode cX11_ruled 105 = .ok (.iload_n 3, 1) := by decide +kernel
theorem dX11_ruled_106 : decode cX11_ruled 106 = .ok (.sipush 1000, 3) := by decide +kernel
theorem dX11_ruled_109 : decode cX11_ruled 109 = .ok (.isub, 1) := by decide +kernel
theorem dX11_ruled_110 : decode cX11_ruled 110 = .ok (.iaload, 1) := by decide +kernel
theorem dX11_ruled_111 : decode cX11_ruled 111 = .ok (.goto 4, 3) := by decide +kernel
theorem dX11_ruled_114 : decode cX11_ruled 114 = .ok (.iload_n 3, 1) := by decide +kernel
theorem dX11_ruled_115 : decode cX11_ruled 115 = .ok (.iastore, 1) := by decide +kernel
theorem dX11_ruled_116 : decode cX11_ruled 116 = .ok (.iinc 1 1, 3) := by decide +kernel
theorem dX11_ruled_119 : decode cX11_ruled 119 = .ok (.iinc 2 1, 3) := by decide +kernel
theorem dX11_ruled_122 : decode cX11_ruled 122 = .ok (.goto (-118), 3) := by decide +kernel
theorem dX11_ruled_125 : decode cX11_ruled 125 = .ok (.aload_n 0, 1) := by decide +kernel
theorem dX11_ruled_126 : decode cX11_ruled 126 = .ok (.getfield 237, 3) := by decide +kernel
theorem dX11_ruled_129 : decode cX11_ruled 129 = .ok (.ifCond .ne 28, 3) := by decide +kernel
theorem dX11_ruled_132 : decode cX11_ruled 132 = .ok (.aload_n 0, 1) := by decide +kernel
theorem dX11_ruled_133 : decode cX11_ruled 133 = .ok (.getfield 52, 3) := by decide +kernel
theorem dX11_ruled_136 : decode cX11_ruled 136 = .ok (.iconst 0, 1) := by decide +kernel
theorem dX11_ruled_137 : decode cX11_ruled 137 = .ok (.iaload, 1) := by decide +kernel
theorem dX11_ruled_138 : decode cX11_ruled 138 = .ok (.aload_n 0, 1) := by decide +kernel
theorem dX11_ruled_139 : decode cX11_ruled 139 = .ok (.getfield 52, 3) := by decide +kernel
theorem dX11_ruled_142 : decode cX11_ruled 142 = .ok (.iconst 1, 1) := by decide +kernel
theorem dX11_ruled_143 : decode cX11_ruled 143 = .ok (.iaload, 1) := by decide +kernel
theorem dX11_ruled_144 : decode cX11_ruled 144 = .ok (.iadd, 1) := by decide +kernel
theorem dX11_ruled_145 : decode cX11_ruled 145 = .ok (.aload_n 0, 1) := by decide +kernel
theorem dX11_ruled_146 : decode cX11_ruled 146 = .ok (.getfield 52, 3) := by decide +kernel
theorem dX11_ruled_149 : decode cX11_ruled 149 = .ok (.iconst 2, 1) := by decide +kernel
theorem dX11_ruled_150 : decode cX11_ruled 150 = .ok (.iaload, 1) := by decide +kernel
theorem dX11_ruled_151 : decode cX11_ruled 151 = .ok (.iconst 3, 1) := by decide +kernel
theorem dX11_ruled_152 : decode cX11_ruled 152 = .ok (.idiv, 1) := by decide +kernel
theorem dX11_ruled_153 : decode cX11_ruled 153 = .ok (.isub, 1) := by decide +kernel
theorem dX11_ruled_154 : decode cX11_ruled 154 = .ok (.goto 9, 3) := by decide +kernel
theorem dX11_ruled_157 : decode cX11_ruled 157 = .ok (.aload_n 0, 1) := by decide +kernel
theorem dX11_ruled_158 : decode cX11_ruled 158 = .ok (.getfield 49, 3) := by decide +kernel
theorem dX11_ruled_161 : decode cX11_ruled 161 = .ok (.iconst 0, 1) := by decide +kernel
theorem dX11_ruled_162 : decode cX11_ruled 162 = .ok (.iaload, 1) := by decide +kernel
theorem dX11_ruled_163 : decode cX11_ruled 163 = .ok (.ireturn, 1) := by decide +kernel
theorem dX11_becomesBy_0 : decode cX11_becomesBy 0 = .ok (.aload_n 0, 1) := by decide +kernel
theorem dX11_becomesBy_1 : decode cX11_becomesBy 1 = .ok (.getfield 52, 3) := by decide +kernel
theorem dX11_becomesBy_4 : decode cX11_becomesBy 4 = .ok (.iconst 0, 1) := by decide +kernel
theorem dX11_becomesBy_5 : decode cX11_becomesBy 5 = .ok (.iload 4, 2) := by decide +kernel
theorem dX11_becomesBy_7 : decode cX11_becomesBy 7 = .ok (.iastore, 1) := by decide +kernel
theorem dX11_becomesBy_8 : decode cX11_becomesBy 8 = .ok (.aload_n 0, 1) := by decide +kernel
theorem dX11_becomesBy_9 : decode cX11_becomesBy 9 = .ok (.getfield 52, 3) := by decide +kernel
theorem dX11_becomesBy_12 : decode cX11_becomesBy 12 = .ok (.iconst 1, 1) := by decide +kernel
theorem dX11_becomesBy_13 : decode cX11_becomesBy 13 = .ok (.aload_n 1, 1) := by decide +kernel
theorem dX11_becomesBy_14 : decode cX11_becomesBy 14 = .ok (.bipush 12, 2) := by decide +kernel
theorem dX11_becomesBy_16 : decode cX11_becomesBy 16 = .ok (.iload_n 2, 1) := by decide +kernel
theorem dX11_becomesBy_17 : decode cX11_becomesBy 17 = .ok (.iadd, 1) := by decide +kernel
theorem dX11_becomesBy_18 : decode cX11_becomesBy 18 = .ok (.iaload, 1) := by decide +kernel
theorem dX11_becomesBy_19 : decode cX11_becomesBy 19 = .ok (.iastore, 1) := by decide +kernel
theorem dX11_becomesBy_20 : decode cX11_becomesBy 20 = .ok (.aload_n 0, 1) := by decide +kernel
theorem dX11_becomesBy_21 : decode cX11_becomesBy 21 = .ok (.getfield 52, 3) := by decide +kernel
theorem dX11_becomesBy_24 : decode cX11_becomesBy 24 = .ok (.iconst 2, 1) := by decide +kernel
theorem dX11_becomesBy_25 : decode cX11_becomesBy 25 = .ok (.aload_n 1, 1) := by decide +kernel
theorem dX11_becomesBy_26 : decode cX11_becomesBy 26 = .ok (.bipush 24, 2) := by decide +kernel
theorem dX11_becomesBy_28 : decode cX11_becomesBy 28 = .ok (.iload_n 2, 1) := by decide +kernel
theorem dX11_becomesBy_29 : decode cX11_becomesBy 29 = .ok (.iadd, 1) := by decide +kernel
theorem dX11_becomesBy_30 : decode cX11_becomesBy 30 = .ok (.iaload, 1) := by decide +kernel
theorem dX11_becomesBy_31 : decode cX11_becomesBy 31 = .ok (.iastore, 1) := by decide +kernel
theorem dX11_becomesBy_32 : decode cX11_becomesBy 32 = .ok (.aload_n 0, 1) := by decide +kernel
theorem dX11_becomesBy_33 : decode cX11_becomesBy 33 = .ok (.getfield 52, 3) := by decide +kernel
theorem dX11_becomesBy_36 : decode cX11_becomesBy 36 = .ok (.iconst 3, 1) := by decide +kernel
theorem dX11_becomesBy_37 : decode cX11_becomesBy 37 = .ok (.aload_n 1, 1) := by decide +kernel
theorem dX11_becomesBy_38 : decode cX11_becomesBy 38 = .ok (.iload_n 2, 1) := by decide +kernel
theorem dX11_becomesBy_39 : decode cX11_becomesBy 39 = .ok (.iaload, 1) := by decide +kernel
theorem dX11_becomesBy_40 : decode cX11_becomesBy 40 = .ok (.iastore, 1) := by decide +kernel
theorem dX11_becomesBy_41 : decode cX11_becomesBy 41 = .ok (.aload_n 0, 1) := by decide +kernel
theorem dX11_becomesBy_42 : decode cX11_becomesBy 42 = .ok (.getfield 52, 3) := by decide +kernel
theorem dX11_becomesBy_45 : decode cX11_becomesBy 45 = .ok (.iconst 4, 1) := by decide +kernel
theorem dX11_becomesBy_46 : decode cX11_becomesBy 46 = .ok (.iload 5, 2) := by decide +kernel
theorem dX11_becomesBy_48 : decode cX11_becomesBy 48 = .ok (.iastore, 1) := by decide +kernel
theorem dX11_becomesBy_49 : decode cX11_becomesBy 49 = .ok (.aload_n 0, 1) := by decide +kernel
theorem dX11_becomesBy_50 : decode cX11_becomesBy 50 = .ok (.getfield 52, 3) := by decide +kernel
theorem dX11_becomesBy_53 : decode cX11_becomesBy 53 = .ok (.iconst 5, 1) := by decide +kernel
theorem dX11_becomesBy_54 : decode cX11_becomesBy 54 = .ok (.aload_n 1, 1) := by decide +kernel
theorem dX11_becomesBy_55 : decode cX11_becomesBy 55 = .ok (.bipush 37, 2) := by decide +kernel
theorem dX11_becomesBy_57 : decode cX11_becomesBy 57 = .ok (.iaload, 1) := by decide +kernel
theorem dX11_becomesBy_58 : decode cX11_becomesBy 58 = .ok (.bipush 7, 2) := by decide +kernel
theorem dX11_becomesBy_60 : decode cX11_becomesBy 60 = .ok (.irem, 1) := by decide +kernel
theorem dX11_becomesBy_61 : decode cX11_becomesBy 61 = .ok (.iastore, 1) := by decide +kernel
theorem dX11_becomesBy_62 : decode cX11_becomesBy 62 = .ok (.aload_n 0, 1) := by decide +kernel
theorem dX11_becomesBy_63 : decode cX11_becomesBy 63 = .ok (.getfield 52, 3) := by decide +kernel
theorem dX11_becomesBy_66 : decode cX11_becomesBy 66 = .ok (.bipush 6, 2) := by decide +kernel
theorem dX11_becomesBy_68 : decode cX11_becomesBy 68 = .ok (.iload_n 3, 1) := by decide +kernel
theorem dX11_becomesBy_69 : decode cX11_becomesBy 69 = .ok (.invokestatic 155, 3) := by decide +kernel
theorem dX11_becomesBy_72 : decode cX11_becomesBy 72 = .ok (.iastore, 1) := by decide +kernel
theorem dX11_becomesBy_73 : decode cX11_becomesBy 73 = .ok (.aload_n 0, 1) := by decide +kernel
theorem dX11_becomesBy_74 : decode cX11_becomesBy 74 = .ok (.invokevirtual 250, 3) := by decide +kernel
theorem dX11_becomesBy_77 : decode cX11_becomesBy 77 = .ok (.bipush 8, 2) := by decide +kernel
theorem dX11_becomesBy_79 : decode cX11_becomesBy 79 = .ok (.invokestatic 253, 3) := by decide +kernel
theorem dX11_becomesBy_82 : decode cX11_becomesBy 82 = .ok (.ireturn, 1) := by decide +kernel
theorem dX11_isEcho_0 : decode cX11_isEcho 0 = .ok (.iload_n 2, 1) := by decide +kernel
theorem dX11_isEcho_1 : decode cX11_isEcho 1 = .ok (.invokestatic 256, 3) := by decide +kernel
theorem dX11_isEcho_4 : decode cX11_isEcho 4 = .ok (.ifCond .eq 35, 3) := by decide +kernel
theorem dX11_isEcho_7 : decode cX11_isEcho 7 = .ok (.aload_n 0, 1) := by decide +kernel
theorem dX11_isEcho_8 : decode cX11_isEcho 8 = .ok (.iload_n 3, 1) := by decide +kernel
theorem dX11_isEcho_9 : decode cX11_isEcho 9 = .ok (.invokevirtual 259, 3) := by decide +kernel
theorem dX11_isEcho_12 : decode cX11_isEcho 12 = .ok (.ifCond .eq 27, 3) := by decide +kernel
theorem dX11_isEcho_15 : decode cX11_isEcho 15 = .ok (.aload_n 1, 1) := by decide +kernel
theorem dX11_isEcho_16 : decode cX11_isEcho 16 = .ok (.bipush 36, 2) := by decide +kernel
theorem dX11_isEcho_18 : decode cX11_isEcho 18 = .ok (.iaload, 1) := by decide +kernel
theorem dX11_isEcho_19 : decode cX11_isEcho 19 = .ok (.iload_n 3, 1) := by decide +kernel
theorem dX11_isEcho_20 : decode cX11_isEcho 20 = .ok (.invokestatic 262, 3) := by decide +kernel
theorem dX11_isEcho_23 : decode cX11_isEcho 23 = .ok (.ifCond .eq 16, 3) := by decide +kernel
theorem dX11_isEcho_26 : decode cX11_isEcho 26 = .ok (.aload_n 0, 1) := by decide +kernel
theorem dX11_isEcho_27 : decode cX11_isEcho 27 = .ok (.iload_n 3, 1) := by decide +kernel
theorem dX11_isEcho_28 : decode cX11_isEcho 28 = .ok (.iload_n 2, 1) := by decide +kernel
theorem dX11_isEcho_29 : decode cX11_isEcho 29 = .ok (.invokevirtual 266, 3) := by decide +kernel
theorem dX11_isEcho_32 : decode cX11_isEcho 32 = .ok (.ifCond .eq 7, 3) := by decide +kernel
theorem dX11_isEcho_35 : decode cX11_isEcho 35 = .ok (.iconst 1, 1) := by decide +kernel
theorem dX11_isEcho_36 : decode cX11_isEcho 36 = .ok (.goto 4, 3) := by decide +kernel
theorem dX11_isEcho_39 : decode cX11_isEcho 39 = .ok (.iconst 0, 1) := by decide +kernel
theorem dX11_isEcho_40 : decode cX11_isEcho 40 = .ok (.ireturn, 1) := by decide +kernel
theorem dX11_laysEcho_0 : decode cX11_laysEcho 0 = .ok (.aload_n 1, 1) := by decide +kernel
theorem dX11_laysEcho_1 : decode cX11_laysEcho 1 = .ok (.bipush 36, 2) := by decide +kernel
theorem dX11_laysEcho_3 : decode cX11_laysEcho 3 = .ok (.iaload, 1) := by decide +kernel
theorem dX11_laysEcho_4 : decode cX11_laysEcho 4 = .ok (.istore 4, 2) := by decide +kernel
theorem dX11_laysEcho_6 : decode cX11_laysEcho 6 = .ok (.iload_n 3, 1) := by decide +kernel
theorem dX11_laysEcho_7 : decode cX11_laysEcho 7 = .ok (.istore 5, 2) := by decide +kernel
theorem dX11_laysEcho_9 : decode cX11_laysEcho 9 = .ok (.aload_n 0, 1) := by decide +kernel
theorem dX11_laysEcho_10 : decode cX11_laysEcho 10 = .ok (.iconst 0, 1) := by decide +kernel
theorem dX11_laysEcho_11 : decode cX11_laysEcho 11 = .ok (.putfield 269, 3) := by decide +kernel
theorem dX11_laysEcho_14 : decode cX11_laysEcho 14 = .ok (.aload_n 0, 1) := by decide +kernel
theorem dX11_laysEcho_15 : decode cX11_laysEcho 15 = .ok (.iload_n 2, 1) := by decide +kernel
theorem dX11_laysEcho_16 : decode cX11_laysEcho 16 = .ok (.putfield 272, 3) := by decide +kernel
theorem dX11_laysEcho_19 : decode cX11_laysEcho 19 = .ok (.aload_n 0, 1) := by decide +kernel
theorem dX11_laysEcho_20 : decode cX11_laysEcho 20 = .ok (.iconst 0, 1) := by decide +kernel
theorem dX11_laysEcho_21 : decode cX11_laysEcho 21 = .ok (.putfield 275, 3) := by decide +kernel
theorem dX11_laysEcho_24 : decode cX11_laysEcho 24 = .ok (.iload 5, 2) := by decide +kernel
theorem dX11_laysEcho_26 : decode cX11_laysEcho 26 = .ok (.ifCond .lt 155, 3) := by decide +kernel
theorem dX11_laysEcho_29 : decode cX11_laysEcho 29 = .ok (.aload_n 0, 1) := by decide +kernel
theorem dX11_laysEcho_30 : decode cX11_laysEcho 30 = .ok (.getfield 55, 3) := by decide +kernel
theorem dX11_laysEcho_33 : decode cX11_laysEcho 33 = .ok (.aload_n 0, 1) := by decide +kernel
theorem dX11_laysEcho_34 : decode cX11_laysEcho 34 = .ok (.getfield 269, 3) := by decide +kernel
theorem dX11_laysEcho_37 : decode cX11_laysEcho 37 = .ok (.iload 5, 2) := by decide +kernel
theorem dX11_laysEcho_39 : decode cX11_laysEcho 39 = .ok (.iastore, 1) := by decide +kernel
theorem dX11_laysEcho_40 : decode cX11_laysEcho 40 = .ok (.aload_n 0, 1) := by decide +kernel
theorem dX11_laysEcho_41 : decode cX11_laysEcho 41 = .ok (.getfield 58, 3) := by decide +kernel
theorem dX11_laysEcho_44 : decode cX11_laysEcho 44 = .ok (.aload_n 0, 1) := by decide +kernel
theorem dX11_laysEcho_45 : decode cX11_laysEcho 45 = .ok (.getfield 269, 3) := by decide +kernel
theorem dX11_laysEcho_48 : decode cX11_laysEcho 48 = .ok (.aload_n 0, 1) := by decide +kernel
theorem dX11_laysEcho_49 : decode cX11_laysEcho 49 = .ok (.getfield 28, 3) := by decide +kernel
theorem dX11_laysEcho_52 : decode cX11_laysEcho 52 = .ok (.iload 5, 2) := by decide +kernel
theorem dX11_laysEcho_54 : decode cX11_laysEcho 54 = .ok (.iaload, 1) := by decide +kernel
theorem dX11_laysEcho_55 : decode cX11_laysEcho 55 = .ok (.aload_n 0, 1) := by decide +kernel
theorem dX11_laysEcho_56 : decode cX11_laysEcho 56 = .ok (.getfield 272, 3) := by decide +kernel
theorem dX11_laysEcho_59 : decode cX11_laysEcho 59 = .ok (.if_icmp .ne 7, 3) := by decide +kernel
theorem dX11_laysEcho_62 : decode cX11_laysEcho 62 = .ok (.iconst 1, 1) := by decide +kernel
theorem dX11_laysEcho_63 : decode cX11_laysEcho 63 = .ok (.goto 4, 3) := by decide +kernel
theorem dX11_laysEcho_66 : decode cX11_laysEcho 66 = .ok (.iconst 0, 1) := by decide +kernel
theorem dX11_laysEcho_67 : decode cX11_laysEcho 67 = .ok (.bastore, 1) := by decide +kernel
theorem dX11_laysEcho_68 : decode cX11_laysEcho 68 = .ok (.aload_n 0, 1) := by decide +kernel
theorem dX11_laysEcho_69 : decode cX11_laysEcho 69 = .ok (.dup, 1) := by decide +kernel
theorem dX11_laysEcho_70 : decode cX11_laysEcho 70 = .ok (.getfield 269, 3) := by decide +kernel
theorem dX11_laysEcho_73 : decode cX11_laysEcho 73 = .ok (.iconst 1, 1) := by decide +kernel
theorem dX11_laysEcho_74 : decode cX11_laysEcho 74 = .ok (.iadd, 1) := by decide +kernel
theorem dX11_laysEcho_75 : decode cX11_laysEcho 75 = .ok (.putfield 269, 3) := by decide +kernel
theorem dX11_laysEcho_78 : decode cX11_laysEcho 78 = .ok (.iload 4, 2) := by decide +kernel
theorem dX11_laysEcho_80 : decode cX11_laysEcho 80 = .ok (.iconst 1, 1) := by decide +kernel
theorem dX11_laysEcho_81 : decode cX11_laysEcho 81 = .ok (.iload 5, 2) := by decide +kernel
theorem dX11_laysEcho_83 : decode cX11_laysEcho 83 = .ok (.ishl, 1) := by decide +kernel
theorem dX11_laysEcho_84 : decode cX11_laysEcho 84 = .ok (.iconst (-1), 1) := by decide +kernel
theorem dX11_laysEcho_85 : decode cX11_laysEcho 85 = .ok (.ixor, 1) := by decide +kernel
theorem dX11_laysEcho_86 : decode cX11_laysEcho 86 = .ok (.iand, 1) := by decide +kernel
theorem dX11_laysEcho_87 : decode cX11_laysEcho 87 = .ok (.istore 4, 2) := by decide +kernel
theorem dX11_laysEcho_89 : decode cX11_laysEcho 89 = .ok (.aload_n 0, 1) := by decide +kernel
theorem dX11_laysEcho_90 : decode cX11_laysEcho 90 = .ok (.dup, 1) := by decide +kernel
theorem dX11_laysEcho_91 : decode cX11_laysEcho 91 = .ok (.getfield 275, 3) := by decide +kernel
theorem dX11_laysEcho_94 : decode cX11_laysEcho 94 = .ok (.aload_n 1, 1) := by decide +kernel
theorem dX11_laysEcho_95 : decode cX11_laysEcho 95 = .ok (.iload 5, 2) := by decide +kernel
theorem dX11_laysEcho_97 : decode cX11_laysEcho 97 = .ok (.iaload, 1) := by decide +kernel
theorem dX11_laysEcho_98 : decode cX11_laysEcho 98 = .ok (.iadd, 1) := by decide +kernel
theorem dX11_laysEcho_99 : decode cX11_laysEcho 99 = .ok (.putfield 275, 3) := by decide +kernel
theorem dX11_laysEcho_102 : decode cX11_laysEcho 102 = .ok (.aload_n 0, 1) := by decide +kernel
theorem dX11_laysEcho_103 : decode cX11_laysEcho 103 = .ok (.aload_n 0, 1) := by decide +kernel
theorem dX11_laysEcho_104 : decode cX11_laysEcho 104 = .ok (.iload 5, 2) := by decide +kernel
theorem dX11_laysEcho_106 : decode cX11_laysEcho 106 = .ok (.aload_n 0, 1) := by decide +kernel
theorem dX11_laysEcho_107 : decode cX11_laysEcho 107 = .ok (.getfield 272, 3) := by decide +kernel
theorem dX11_laysEcho_110 : decode cX11_laysEcho 110 = .ok (.invokevirtual 278, 3) := by decide +kernel
theorem dX11_laysEcho_113 : decode cX11_laysEcho 113 = .ok (.putfield 272, 3) := by decide +kernel
theorem dX11_laysEcho_116 : decode cX11_laysEcho 116 = .ok (.iconst (-1), 1) := by decide +kernel
theorem dX11_laysEcho_117 : decode cX11_laysEcho 117 = .ok (.istore 5, 2) := by decide +kernel
theorem dX11_laysEcho_119 : decode cX11_laysEcho 119 = .ok (.aload_n 0, 1) := by decide +kernel
theorem dX11_laysEcho_120 : decode cX11_laysEcho 120 = .ok (.getfield 128, 3) := by decide +kernel
theorem dX11_laysEcho_123 : decode cX11_laysEcho 123 = .ok (.iconst 1, 1) := by decide +kernel
theorem dX11_laysEcho_124 : decode cX11_laysEcho 124 = .ok (.isub, 1) := by decide +kernel
theorem dX11_laysEcho_125 : decode cX11_laysEcho 125 = .ok (.istore 6, 2) := by decide +kernel
theorem dX11_laysEcho_127 : decode cX11_laysEcho 127 = .ok (.iload 6, 2) := by decide +kernel
theorem dX11_laysEcho_129 : decode cX11_laysEcho 129 = .ok (.ifCond .lt 49, 3) := by decide +kernel
theorem dX11_laysEcho_132 : decode cX11_laysEcho 132 = .ok (.aload_n 0, 1) := by decide +kernel
theorem dX11_laysEcho_133 : decode cX11_laysEcho 133 = .ok (.getfield 272, 3) := by decide +kernel
theorem dX11_laysEcho_136 : decode cX11_laysEcho 136 = .ok (.iload_n 2, 1) := by decide +kernel
theorem dX11_laysEcho_137 : decode cX11_laysEcho 137 = .ok (.if_icmp .eq 41, 3) := by decide +kernel
theorem dX11_laysEcho_140 : decode cX11_laysEcho 140 = .ok (.iload 4, 2) := by decide +kernel
theorem dX11_laysEcho_142 : decode cX11_laysEcho 142 = .ok (.iload 6, 2) := by decide +kernel
theorem dX11_laysEcho_144 : decode cX11_laysEcho 144 = .ok (.invokestatic 262, 3) := by decide +kernel
theorem dX11_laysEcho_147 : decode cX11_laysEcho 147 = .ok (.ifCond .eq 21, 3) := by decide +kernel
theorem dX11_laysEcho_150 : decode cX11_laysEcho 150 = .ok (.aload_n 0, 1) := by decide +kernel
theorem dX11_laysEcho_151 : decode cX11_laysEcho 151 = .ok (.iload 6, 2) := by decide +kernel
theorem dX11_laysEcho_153 : decode cX11_laysEcho 153 = .ok (.aload_n 0, 1) := by decide +kernel
theorem dX11_laysEcho_154 : decode cX11_laysEcho 154 = .ok (.getfield 272, 3) := by decide +kernel
theorem dX11_laysEcho_157 : decode cX11_laysEcho 157 = .ok (.invokevirtual 266, 3) := by decide +kernel
theorem dX11_laysEcho_160 : decode cX11_laysEcho 160 = .ok (.ifCond .eq 8, 3) := by decide +kernel
theorem dX11_laysEcho_163 : decode cX11_laysEcho 163 = .ok (.iload 6, 2) := by decide +kernel
theorem dX11_laysEcho_165 : decode cX11_laysEcho 165 = .ok (.goto 5, 3) := by decide +kernel
theorem dX11_laysEcho_168 : decode cX11_laysEcho 168 = .ok (.iload 5, 2) := by decide +kernel
theorem dX11_laysEcho_170 : decode cX11_laysEcho 170 = .ok (.istore 5, 2) := by decide +kernel
theorem dX11_laysEcho_172 : decode cX11_laysEcho 172 = .ok (.iinc 6 (-1), 3) := by decide +kernel
theorem dX11_laysEcho_175 : decode cX11_laysEcho 175 = .ok (.goto (-48), 3) := by decide +kernel
theorem dX11_laysEcho_178 : decode cX11_laysEcho 178 = .ok (.goto (-154), 3) := by decide +kernel
theorem dX11_laysEcho_181 : decode cX11_laysEcho 181 = .ok (.return_, 1) := by decide +kernel
theorem dX11_comesOut_0 : decode cX11_comesOut 0 = .ok (.iload_n 2, 1) := by decide +kernel
theorem dX11_comesOut_1 : decode cX11_comesOut 1 = .ok (.istore 4, 2) := by decide +kernel
theorem dX11_comesOut_3 : decode cX11_comesOut 3 = .ok (.iconst 0, 1) := by decide +kernel
theorem dX11_comesOut_4 : decode cX11_comesOut 4 = .ok (.istore 5, 2) := by decide +kernel
theorem dX11_comesOut_6 : decode cX11_comesOut 6 = .ok (.iload 5, 2) := by decide +kernel
theorem dX11_comesOut_8 : decode cX11_comesOut 8 = .ok (.aload_n 0, 1) := by decide +kernel
theorem dX11_comesOut_9 : decode cX11_comesOut 9 = .ok (.getfield 269, 3) := by decide +kernel
theorem dX11_comesOut_12 : decode cX11_comesOut 12 = .ok (.if_icmp .ge 33, 3) := by decide +kernel
theorem dX11_comesOut_15 : decode cX11_comesOut 15 = .ok (.aload_n 0, 1) := by decide +kernel
theorem dX11_comesOut_16 : decode cX11_comesOut 16 = .ok (.aload_n 1, 1) := by decide +kernel
theorem dX11_comesOut_17 : decode cX11_comesOut 17 = .ok (.aload_n 0, 1) := by decide +kernel
theorem dX11_comesOut_18 : decode cX11_comesOut 18 = .ok (.getfield 55, 3) := by decide +kernel
theorem dX11_comesOut_21 : decode cX11_comesOut 21 = .ok (.iload 5, 2) := by decide +kernel
theorem dX11_comesOut_23 : decode cX11_comesOut 23 = .ok (.iaload, 1) := by decide +kernel
theorem dX11_comesOut_24 : decode cX11_comesOut 24 = .ok (.aload_n 0, 1) := by decide +kernel
theorem dX11_comesOut_25 : decode cX11_comesOut 25 = .ok (.getfield 58, 3) := by decide +kernel
theorem dX11_comesOut_28 : decode cX11_comesOut 28 = .ok (.iload 5, 2) := by decide +kernel
theorem dX11_comesOut_30 : decode cX11_comesOut 30 = .ok (.baload, 1) := by decide +kernel
theorem dX11_comesOut_31 : decode cX11_comesOut 31 = .ok (.iload 4, 2) := by decide +kernel
theorem dX11_comesOut_33 : decode cX11_comesOut 33 = .ok (.iload_n 3, 1) := by decide +kernel
theorem dX11_comesOut_34 : decode cX11_comesOut 34 = .ok (.invokevirtual 281, 3) := by decide +kernel
theorem dX11_comesOut_37 : decode cX11_comesOut 37 = .ok (.istore 4, 2) := by decide +kernel
theorem dX11_comesOut_39 : decode cX11_comesOut 39 = .ok (.iinc 5 1, 3) := by decide +kernel
theorem dX11_comesOut_42 : decode cX11_comesOut 42 = .ok (.goto (-36), 3) := by decide +kernel
theorem dX11_comesOut_45 : decode cX11_comesOut 45 = .ok (.iload 4, 2) := by decide +kernel
theorem dX11_comesOut_47 : decode cX11_comesOut 47 = .ok (.ireturn, 1) := by decide +kernel
theorem dX11_passage_0 : decode cX11_passage 0 = .ok (.aload_n 0, 1) := by decide +kernel
theorem dX11_passage_1 : decode cX11_passage 1 = .ok (.iconst 0, 1) := by decide +kernel
theorem dX11_passage_2 : decode cX11_passage 2 = .ok (.putfield 3, 3) := by decide +kernel
theorem dX11_passage_5 : decode cX11_passage 5 = .ok (.aload_n 0, 1) := by decide +kernel
theorem dX11_passage_6 : decode cX11_passage 6 = .ok (.iload_n 1, 1) := by decide +kernel
theorem dX11_passage_7 : decode cX11_passage 7 = .ok (.invokevirtual 259, 3) := by decide +kernel
theorem dX11_passage_10 : decode cX11_passage 10 = .ok (.ifCond .eq 15, 3) := by decide +kernel
theorem dX11_passage_13 : decode cX11_passage 13 = .ok (.iload_n 2, 1) := by decide +kernel
theorem dX11_passage_14 : decode cX11_passage 14 = .ok (.i2l, 1) := by decide +kernel
theorem dX11_passage_15 : decode cX11_passage 15 = .ok (.lconst 0, 1) := by decide +kernel
theorem dX11_passage_16 : decode cX11_passage 16 = .ok (.ldc2_w 285, 3) := by decide +kernel
theorem dX11_passage_19 : decode cX11_passage 19 = .ok (.invokestatic 131, 3) := by decide +kernel
theorem dX11_passage_22 : decode cX11_passage 22 = .ok (.ifCond .ne 8, 3) := by decide +kernel
theorem dX11_passage_25 : decode cX11_passage 25 = .ok (.aload_n 0, 1) := by decide +kernel
theorem dX11_passage_26 : decode cX11_passage 26 = .ok (.invokevirtual 287, 3) := by decide +kernel
theorem dX11_passage_29 : decode cX11_passage 29 = .ok (.ireturn, 1) := by decide +kernel
theorem dX11_passage_30 : decode cX11_passage 30 = .ok (.iload_n 2, 1) := by decide +kernel
theorem dX11_passage_31 : decode cX11_passage 31 = .ok (.tableswitch 74 0 4 #[33, 40, 47, 54, 64], 33) := by decide +kernel
theorem dX11_passage_64 : decode cX11_passage 64 = .ok (.aload_n 0, 1) := by decide +kernel
theorem dX11_passage_65 : decode cX11_passage 65 = .ok (.getfield 24, 3) := by decide +kernel
theorem dX11_passage_68 : decode cX11_passage 68 = .ok (.iload_n 1, 1) := by decide +kernel
theorem dX11_passage_69 : decode cX11_passage 69 = .ok (.iaload, 1) := by decide +kernel
theorem dX11_passage_70 : decode cX11_passage 70 = .ok (.ireturn, 1) := by decide +kernel
theorem dX11_passage_71 : decode cX11_passage 71 = .ok (.aload_n 0, 1) := by decide +kernel
theorem dX11_passage_72 : decode cX11_passage 72 = .ok (.getfield 28, 3) := by decide +kernel
theorem dX11_passage_75 : decode cX11_passage 75 = .ok (.iload_n 1, 1) := by decide +kernel
theorem dX11_passage_76 : decode cX11_passage 76 = .ok (.iaload, 1) := by decide +kernel
theorem dX11_passage_77 : decode cX11_passage 77 = .ok (.ireturn, 1) := by decide +kernel
theorem dX11_passage_78 : decode cX11_passage 78 = .ok (.aload_n 0, 1) := by decide +kernel
theorem dX11_passage_79 : decode cX11_passage 79 = .ok (.getfield 31, 3) := by decide +kernel
theorem dX11_passage_82 : decode cX11_passage 82 = .ok (.iload_n 1, 1) := by decide +kernel
theorem dX11_passage_83 : decode cX11_passage 83 = .ok (.iaload, 1) := by decide +kernel
theorem dX11_passage_84 : decode cX11_passage 84 = .ok (.ireturn, 1) := by decide +kernel
theorem dX11_passage_85 : decode cX11_passage 85 = .ok (.aload_n 0, 1) := by decide +kernel
theorem dX11_passage_86 : decode cX11_passage 86 = .ok (.getfield 31, 3) := by decide +kernel
theorem dX11_passage_89 : decode cX11_passage 89 = .ok (.bipush 12, 2) := by decide +kernel
theorem dX11_passage_91 : decode cX11_passage 91 = .ok (.iload_n 1, 1) := by decide +kernel
theorem dX11_passage_92 : decode cX11_passage 92 = .ok (.iadd, 1) := by decide +kernel
theorem dX11_passage_93 : decode cX11_passage 93 = .ok (.iaload, 1) := by decide +kernel
theorem dX11_passage_94 : decode cX11_passage 94 = .ok (.ireturn, 1) := by decide +kernel
theorem dX11_passage_95 : decode cX11_passage 95 = .ok (.aload_n 0, 1) := by decide +kernel
theorem dX11_passage_96 : decode cX11_passage 96 = .ok (.getfield 31, 3) := by decide +kernel
theorem dX11_passage_99 : decode cX11_passage 99 = .ok (.bipush 24, 2) := by decide +kernel
theorem dX11_passage_101 : decode cX11_passage 101 = .ok (.iload_n 1, 1) := by decide +kernel
theorem dX11_passage_102 : decode cX11_passage 102 = .ok (.iadd, 1) := by decide +kernel
theorem dX11_passage_103 : decode cX11_passage 103 = .ok (.iaload, 1) := by decide +kernel
theorem dX11_passage_104 : decode cX11_passage 104 = .ok (.ireturn, 1) := by decide +kernel
theorem dX11_passage_105 : decode cX11_passage 105 = .ok (.aload_n 0, 1) := by decide +kernel
theorem dX11_passage_106 : decode cX11_passage 106 = .ok (.getfield 31, 3) := by decide +kernel
theorem dX11_passage_109 : decode cX11_passage 109 = .ok (.bipush 36, 2) := by decide +kernel
theorem dX11_passage_111 : decode cX11_passage 111 = .ok (.iaload, 1) := by decide +kernel
theorem dX11_passage_112 : decode cX11_passage 112 = .ok (.iload_n 1, 1) := by decide +kernel
theorem dX11_passage_113 : decode cX11_passage 113 = .ok (.invokestatic 262, 3) := by decide +kernel
theorem dX11_passage_116 : decode cX11_passage 116 = .ok (.invokestatic 155, 3) := by decide +kernel
theorem dX11_passage_119 : decode cX11_passage 119 = .ok (.ireturn, 1) := by decide +kernel
theorem dX11_farOf_0 : decode cX11_farOf 0 = .ok (.aload_n 0, 1) := by decide +kernel
theorem dX11_farOf_1 : decode cX11_farOf 1 = .ok (.getfield 62, 3) := by decide +kernel
theorem dX11_farOf_4 : decode cX11_farOf 4 = .ok (.bipush 8, 2) := by decide +kernel
theorem dX11_farOf_6 : decode cX11_farOf 6 = .ok (.iload_n 1, 1) := by decide +kernel
theorem dX11_farOf_7 : decode cX11_farOf 7 = .ok (.imul, 1) := by decide +kernel
theorem dX11_farOf_8 : decode cX11_farOf 8 = .ok (.iload_n 2, 1) := by decide +kernel
theorem dX11_farOf_9 : decode cX11_farOf 9 = .ok (.iadd, 1) := by decide +kernel
theorem dX11_farOf_10 : decode cX11_farOf 10 = .ok (.iaload, 1) := by decide +kernel
theorem dX11_farOf_11 : decode cX11_farOf 11 = .ok (.ireturn, 1) := by decide +kernel
theorem dX11_laysFar_0 : decode cX11_laysFar 0 = .ok (.iconst 0, 1) := by decide +kernel
theorem dX11_laysFar_1 : decode cX11_laysFar 1 = .ok (.istore_n 2, 1) := by decide +kernel
theorem dX11_laysFar_2 : decode cX11_laysFar 2 = .ok (.iload_n 2, 1) := by decide +kernel
theorem dX11_laysFar_3 : decode cX11_laysFar 3 = .ok (.bipush 64, 2) := by decide +kernel
theorem dX11_laysFar_5 : decode cX11_laysFar 5 = .ok (.if_icmp .ge 29, 3) := by decide +kernel
theorem dX11_laysFar_8 : decode cX11_laysFar 8 = .ok (.aload_n 0, 1) := by decide +kernel
theorem dX11_laysFar_9 : decode cX11_laysFar 9 = .ok (.getfield 62, 3) := by decide +kernel
theorem dX11_laysFar_12 : decode cX11_laysFar 12 = .ok (.iload_n 2, 1) := by decide +kernel
theorem dX11_laysFar_13 : decode cX11_laysFar 13 = .ok (.iload_n 2, 1) := by decide +kernel
theorem dX11_laysFar_14 : decode cX11_laysFar 14 = .ok (.bipush 9, 2) := by decide +kernel
theorem dX11_laysFar_16 : decode cX11_laysFar 16 = .ok (.irem, 1) := by decide +kernel
theorem dX11_laysFar_17 : decode cX11_laysFar 17 = .ok (.ifCond .ne 7, 3) := by decide +kernel
theorem dX11_laysFar_20 : decode cX11_laysFar 20 = .ok (.iconst 0, 1) := by decide +kernel
theorem dX11_laysFar_21 : decode cX11_laysFar 21 = .ok (.goto 6, 3) := by decide +kernel
theorem dX11_laysFar_24 : decode cX11_laysFar 24 = .ok (.ldc_w 290, 3) := by decide +kernel
theorem dX11_laysFar_27 : decode cX11_laysFar 27 = .ok (.iastore, 1) := by decide +kernel
theorem dX11_laysFar_28 : decode cX11_laysFar 28 = .ok (.iinc 2 1, 3) := by decide +kernel
theorem dX11_laysFar_31 : decode cX11_laysFar 31 = .ok (.goto (-29), 3) := by decide +kernel
theorem dX11_laysFar_34 : decode cX11_laysFar 34 = .ok (.iconst 0, 1) := by decide +kernel
theorem dX11_laysFar_35 : decode cX11_laysFar 35 = .ok (.istore_n 2, 1) := by decide +kernel
theorem dX11_laysFar_36 : decode cX11_laysFar 36 = .ok (.iload_n 2, 1) := by decide +kernel
theorem dX11_laysFar_37 : decode cX11_laysFar 37 = .ok (.bipush 8, 2) := by decide +kernel
theorem dX11_laysFar_39 : decode cX11_laysFar 39 = .ok (.if_icmp .ge 139, 3) := by decide +kernel
theorem dX11_laysFar_42 : decode cX11_laysFar 42 = .ok (.iconst 0, 1) := by decide +kernel
theorem dX11_laysFar_43 : decode cX11_laysFar 43 = .ok (.istore_n 3, 1) := by decide +kernel
theorem dX11_laysFar_44 : decode cX11_laysFar 44 = .ok (.iload_n 3, 1) := by decide +kernel
theorem dX11_laysFar_45 : decode cX11_laysFar 45 = .ok (.aload_n 0, 1) := by decide +kernel
theorem dX11_laysFar_46 : decode cX11_laysFar 46 = .ok (.getfield 128, 3) := by decide +kernel
theorem dX11_laysFar_49 : decode cX11_laysFar 49 = .ok (.if_icmp .ge 123, 3) := by decide +kernel
theorem dX11_laysFar_52 : decode cX11_laysFar 52 = .ok (.iconst 0, 1) := by decide +kernel
theorem dX11_laysFar_53 : decode cX11_laysFar 53 = .ok (.istore 4, 2) := by decide +kernel
theorem dX11_laysFar_55 : decode cX11_laysFar 55 = .ok (.iload 4, 2) := by decide +kernel
theorem dX11_laysFar_57 : decode cX11_laysFar 57 = .ok (.bipush 8, 2) := by decide +kernel
theorem dX11_laysFar_59 : decode cX11_laysFar 59 = .ok (.if_icmp .ge 107, 3) := by decide +kernel
theorem dX11_laysFar_62 : decode cX11_laysFar 62 = .ok (.iload_n 1, 1) := by decide +kernel
theorem dX11_laysFar_63 : decode cX11_laysFar 63 = .ok (.iload_n 3, 1) := by decide +kernel
theorem dX11_laysFar_64 : decode cX11_laysFar 64 = .ok (.invokestatic 262, 3) := by decide +kernel
theorem dX11_laysFar_67 : decode cX11_laysFar 67 = .ok (.ifCond .eq 99, 3) := by decide +kernel
theorem dX11_laysFar_70 : decode cX11_laysFar 70 = .ok (.bipush 8, 2) := by decide +kernel
theorem dX11_laysFar_72 : decode cX11_laysFar 72 = .ok (.iload 4, 2) := by decide +kernel
theorem dX11_laysFar_74 : decode cX11_laysFar 74 = .ok (.imul, 1) := by decide +kernel
theorem dX11_laysFar_75 : decode cX11_laysFar 75 = .ok (.aload_n 0, 1) := by decide +kernel
theorem dX11_laysFar_76 : decode cX11_laysFar 76 = .ok (.getfield 24, 3) := by decide +kernel
theorem dX11_laysFar_79 : decode cX11_laysFar 79 = .ok (.iload_n 3, 1) := by decide +kernel
theorem dX11_laysFar_80 : decode cX11_laysFar 80 = .ok (.iaload, 1) := by decide +kernel
theorem dX11_laysFar_81 : decode cX11_laysFar 81 = .ok (.iadd, 1) := by decide +kernel
theorem dX11_laysFar_82 : decode cX11_laysFar 82 = .ok (.istore 5, 2) := by decide +kernel
theorem dX11_laysFar_84 : decode cX11_laysFar 84 = .ok (.bipush 8, 2) := by decide +kernel
theorem dX11_laysFar_86 : decode cX11_laysFar 86 = .ok (.iload 4, 2) := by decide +kernel
theorem dX11_laysFar_88 : decode cX11_laysFar 88 = .ok (.imul, 1) := by decide +kernel
theorem dX11_laysFar_89 : decode cX11_laysFar 89 = .ok (.aload_n 0, 1) := by decide +kernel
theorem dX11_laysFar_90 : decode cX11_laysFar 90 = .ok (.getfield 28, 3) := by decide +kernel
theorem dX11_laysFar_93 : decode cX11_laysFar 93 = .ok (.iload_n 3, 1) := by decide +kernel
theorem dX11_laysFar_94 : decode cX11_laysFar 94 = .ok (.iaload, 1) := by decide +kernel
theorem dX11_laysFar_95 : decode cX11_laysFar 95 = .ok (.iadd, 1) := by decide +kernel
theorem dX11_laysFar_96 : decode cX11_laysFar 96 = .ok (.istore 6, 2) := by decide +kernel
theorem dX11_laysFar_98 : decode cX11_laysFar 98 = .ok (.aload_n 0, 1) := by decide +kernel
theorem dX11_laysFar_99 : decode cX11_laysFar 99 = .ok (.getfield 62, 3) := by decide +kernel
theorem dX11_laysFar_102 : decode cX11_laysFar 102 = .ok (.iload 5, 2) := by decide +kernel
theorem dX11_laysFar_104 : decode cX11_laysFar 104 = .ok (.aload_n 0, 1) := by decide +kernel
theorem dX11_laysFar_105 : decode cX11_laysFar 105 = .ok (.getfield 62, 3) := by decide +kernel
theorem dX11_laysFar_108 : decode cX11_laysFar 108 = .ok (.iload 5, 2) := by decide +kernel
theorem dX11_laysFar_110 : decode cX11_laysFar 110 = .ok (.iaload, 1) := by decide +kernel
theorem dX11_laysFar_111 : decode cX11_laysFar 111 = .ok (.aload_n 0, 1) := by decide +kernel
theorem dX11_laysFar_112 : decode cX11_laysFar 112 = .ok (.getfield 62, 3) := by decide +kernel
theorem dX11_laysFar_115 : decode cX11_laysFar 115 = .ok (.iload 6, 2) := by decide +kernel
theorem dX11_laysFar_117 : decode cX11_laysFar 117 = .ok (.iaload, 1) := by decide +kernel
theorem dX11_laysFar_118 : decode cX11_laysFar 118 = .ok (.aload_n 0, 1) := by decide +kernel
theorem dX11_laysFar_119 : decode cX11_laysFar 119 = .ok (.getfield 31, 3) := by decide +kernel
theorem dX11_laysFar_122 : decode cX11_laysFar 122 = .ok (.iload_n 3, 1) := by decide +kernel
theorem dX11_laysFar_123 : decode cX11_laysFar 123 = .ok (.iaload, 1) := by decide +kernel
theorem dX11_laysFar_124 : decode cX11_laysFar 124 = .ok (.iadd, 1) := by decide +kernel
theorem dX11_laysFar_125 : decode cX11_laysFar 125 = .ok (.invokestatic 146, 3) := by decide +kernel
theorem dX11_laysFar_128 : decode cX11_laysFar 128 = .ok (.iastore, 1) := by decide +kernel
theorem dX11_laysFar_129 : decode cX11_laysFar 129 = .ok (.aload_n 0, 1) := by decide +kernel
theorem dX11_laysFar_130 : decode cX11_laysFar 130 = .ok (.getfield 62, 3) := by decide +kernel
theorem dX11_laysFar_133 : decode cX11_laysFar 133 = .ok (.iload 6, 2) := by decide +kernel
theorem dX11_laysFar_135 : decode cX11_laysFar 135 = .ok (.aload_n 0, 1) := by decide +kernel
theorem dX11_laysFar_136 : decode cX11_laysFar 136 = .ok (.getfield 62, 3) := by decide +kernel
theorem dX11_laysFar_139 : decode cX11_laysFar 139 = .ok (.iload 6, 2) := by decide +kernel
theorem dX11_laysFar_141 : decode cX11_laysFar 141 = .ok (.iaload, 1) := by decide +kernel
theorem dX11_laysFar_142 : decode cX11_laysFar 142 = .ok (.aload_n 0, 1) := by decide +kernel
theorem dX11_laysFar_143 : decode cX11_laysFar 143 = .ok (.getfield 62, 3) := by decide +kernel
theorem dX11_laysFar_146 : decode cX11_laysFar 146 = .ok (.iload 5, 2) := by decide +kernel
theorem dX11_laysFar_148 : decode cX11_laysFar 148 = .ok (.iaload, 1) := by decide +kernel
theorem dX11_laysFar_149 : decode cX11_laysFar 149 = .ok (.aload_n 0, 1) := by decide +kernel
theorem dX11_laysFar_150 : decode cX11_laysFar 150 = .ok (.getfield 31, 3) := by decide +kernel
theorem dX11_laysFar_153 : decode cX11_laysFar 153 = .ok (.iload_n 3, 1) := by decide +kernel
theorem dX11_laysFar_154 : decode cX11_laysFar 154 = .ok (.iaload, 1) := by decide +kernel
theorem dX11_laysFar_155 : decode cX11_laysFar 155 = .ok (.iadd, 1) := by decide +kernel
theorem dX11_laysFar_156 : decode cX11_laysFar 156 = .ok (.invokestatic 146, 3) := by decide +kernel
theorem dX11_laysFar_159 : decode cX11_laysFar 159 = .ok (.iastore, 1) := by decide +kernel
theorem dX11_laysFar_160 : decode cX11_laysFar 160 = .ok (.iinc 4 1, 3) := by decide +kernel
theorem dX11_laysFar_163 : decode cX11_laysFar 163 = .ok (.goto (-108), 3) := by decide +kernel
theorem dX11_laysFar_166 : decode cX11_laysFar 166 = .ok (.iinc 3 1, 3) := by decide +kernel
theorem dX11_laysFar_169 : decode cX11_laysFar 169 = .ok (.goto (-125), 3) := by decide +kernel
theorem dX11_laysFar_172 : decode cX11_laysFar 172 = .ok (.iinc 2 1, 3) := by decide +kernel
theorem dX11_laysFar_175 : decode cX11_laysFar 175 = .ok (.goto (-139), 3) := by decide +kernel
theorem dX11_laysFar_178 : decode cX11_laysFar 178 = .ok (.return_, 1) := by decide +kernel
theorem dX11_areJoined_0 : decode cX11_areJoined 0 = .ok (.aload_n 0, 1) := by decide +kernel
theorem dX11_areJoined_1 : decode cX11_areJoined 1 = .ok (.iload_n 1, 1) := by decide +kernel
theorem dX11_areJoined_2 : decode cX11_areJoined 2 = .ok (.iload_n 2, 1) := by decide +kernel
theorem dX11_areJoined_3 : decode cX11_areJoined 3 = .ok (.invokevirtual 291, 3) := by decide +kernel
theorem dX11_areJoined_6 : decode cX11_areJoined 6 = .ok (.ldc_w 290, 3) := by decide +kernel
theorem dX11_areJoined_9 : decode cX11_areJoined 9 = .ok (.if_icmp .ge 7, 3) := by decide +kernel
theorem dX11_areJoined_12 : decode cX11_areJoined 12 = .ok (.iconst 1, 1) := by decide +kernel
theorem dX11_areJoined_13 : decode cX11_areJoined 13 = .ok (.goto 4, 3) := by decide +kernel
theorem dX11_areJoined_16 : decode cX11_areJoined 16 = .ok (.iconst 0, 1) := by decide +kernel
theorem dX11_areJoined_17 : decode cX11_areJoined 17 = .ok (.ireturn, 1) := by decide +kernel
theorem dX11_joinedTo_0 : decode cX11_joinedTo 0 = .ok (.iconst 0, 1) := by decide +kernel
theorem dX11_joinedTo_1 : decode cX11_joinedTo 1 = .ok (.istore_n 2, 1) := by decide +kernel
theorem dX11_joinedTo_2 : decode cX11_joinedTo 2 = .ok (.iconst 0, 1) := by decide +kernel
theorem dX11_joinedTo_3 : decode cX11_joinedTo 3 = .ok (.istore_n 3, 1) := by decide +kernel
theorem dX11_joinedTo_4 : decode cX11_joinedTo 4 = .ok (.iload_n 3, 1) := by decide +kernel
theorem dX11_joinedTo_5 : decode cX11_joinedTo 5 = .ok (.bipush 8, 2) := by decide +kernel
theorem dX11_joinedTo_7 : decode cX11_joinedTo 7 = .ok (.if_icmp .ge 28, 3) := by decide +kernel
theorem dX11_joinedTo_10 : decode cX11_joinedTo 10 = .ok (.iload_n 2, 1) := by decide +kernel
theorem dX11_joinedTo_11 : decode cX11_joinedTo 11 = .ok (.aload_n 0, 1) := by decide +kernel
theorem dX11_joinedTo_12 : decode cX11_joinedTo 12 = .ok (.iload_n 1, 1) := by decide +kernel
theorem dX11_joinedTo_13 : decode cX11_joinedTo 13 = .ok (.iload_n 3, 1) := by decide +kernel
theorem dX11_joinedTo_14 : decode cX11_joinedTo 14 = .ok (.invokevirtual 294, 3) := by decide +kernel
theorem dX11_joinedTo_17 : decode cX11_joinedTo 17 = .ok (.ifCond .eq 9, 3) := by decide +kernel
theorem dX11_joinedTo_20 : decode cX11_joinedTo 20 = .ok (.iconst 1, 1) := by decide +kernel
theorem dX11_joinedTo_21 : decode cX11_joinedTo 21 = .ok (.iload_n 3, 1) := by decide +kernel
theorem dX11_joinedTo_22 : decode cX11_joinedTo 22 = .ok (.ishl, 1) := by decide +kernel
theorem dX11_joinedTo_23 : decode cX11_joinedTo 23 = .ok (.goto 4, 3) := by decide +kernel
theorem dX11_joinedTo_26 : decode cX11_joinedTo 26 = .ok (.iconst 0, 1) := by decide +kernel
theorem dX11_joinedTo_27 : decode cX11_joinedTo 27 = .ok (.ior, 1) := by decide +kernel
theorem dX11_joinedTo_28 : decode cX11_joinedTo 28 = .ok (.istore_n 2, 1) := by decide +kernel
theorem dX11_joinedTo_29 : decode cX11_joinedTo 29 = .ok (.iinc 3 1, 3) := by decide +kernel
theorem dX11_joinedTo_32 : decode cX11_joinedTo 32 = .ok (.goto (-28), 3) := by decide +kernel
theorem dX11_joinedTo_35 : decode cX11_joinedTo 35 = .ok (.iload_n 2, 1) := by decide +kernel
theorem dX11_joinedTo_36 : decode cX11_joinedTo 36 = .ok (.ireturn, 1) := by decide +kernel
theorem dX11_farthest_0 : decode cX11_farthest 0 = .ok (.iconst 0, 1) := by decide +kernel
theorem dX11_farthest_1 : decode cX11_farthest 1 = .ok (.istore_n 2, 1) := by decide +kernel
theorem dX11_farthest_2 : decode cX11_farthest 2 = .ok (.iconst 0, 1) := by decide +kernel
theorem dX11_farthest_3 : decode cX11_farthest 3 = .ok (.istore_n 3, 1) := by decide +kernel
theorem dX11_farthest_4 : decode cX11_farthest 4 = .ok (.iload_n 3, 1) := by decide +kernel
theorem dX11_farthest_5 : decode cX11_farthest 5 = .ok (.bipush 8, 2) := by decide +kernel
theorem dX11_farthest_7 : decode cX11_farthest 7 = .ok (.if_icmp .ge 33, 3) := by decide +kernel
theorem dX11_farthest_10 : decode cX11_farthest 10 = .ok (.aload_n 0, 1) := by decide +kernel
theorem dX11_farthest_11 : decode cX11_farthest 11 = .ok (.iload_n 1, 1) := by decide +kernel
theorem dX11_farthest_12 : decode cX11_farthest 12 = .ok (.iload_n 3, 1) := by decide +kernel
theorem dX11_farthest_13 : decode cX11_farthest 13 = .ok (.invokevirtual 294, 3) := by decide +kernel
theorem dX11_farthest_16 : decode cX11_farthest 16 = .ok (.ifCond .eq 16, 3) := by decide +kernel
theorem dX11_farthest_19 : decode cX11_farthest 19 = .ok (.iload_n 2, 1) := by decide +kernel
theorem dX11_farthest_20 : decode cX11_farthest 20 = .ok (.aload_n 0, 1) := by decide +kernel
theorem dX11_farthest_21 : decode cX11_farthest 21 = .ok (.iload_n 1, 1) := by decide +kernel
theorem dX11_farthest_22 : decode cX11_farthest 22 = .ok (.iload_n 3, 1) := by decide +kernel
theorem dX11_farthest_23 : decode cX11_farthest 23 = .ok (.invokevirtual 291, 3) := by decide +kernel
theorem dX11_farthest_26 : decode cX11_farthest 26 = .ok (.invokestatic 297, 3) := by decide +kernel
theorem dX11_farthest_29 : decode cX11_farthest 29 = .ok (.goto 4, 3) := by decide +kernel
theorem dX11_farthest_32 : decode cX11_farthest 32 = .ok (.iload_n 2, 1) := by decide +kernel
theorem dX11_farthest_33 : decode cX11_farthest 33 = .ok (.istore_n 2, 1) := by decide +kernel
theorem dX11_farthest_34 : decode cX11_farthest 34 = .ok (.iinc 3 1, 3) := by decide +kernel
theorem dX11_farthest_37 : decode cX11_farthest 37 = .ok (.goto (-33), 3) := by decide +kernel
theorem dX11_farthest_40 : decode cX11_farthest 40 = .ok (.iload_n 2, 1) := by decide +kernel
theorem dX11_farthest_41 : decode cX11_farthest 41 = .ok (.ireturn, 1) := by decide +kernel
theorem dX11_openOf_0 : decode cX11_openOf 0 = .ok (.iconst 0, 1) := by decide +kernel
theorem dX11_openOf_1 : decode cX11_openOf 1 = .ok (.istore_n 2, 1) := by decide +kernel
theorem dX11_openOf_2 : decode cX11_openOf 2 = .ok (.iconst 0, 1) := by decide +kernel
theorem dX11_openOf_3 : decode cX11_openOf 3 = .ok (.istore_n 3, 1) := by decide +kernel
theorem dX11_openOf_4 : decode cX11_openOf 4 = .ok (.iload_n 3, 1) := by decide +kernel
theorem dX11_openOf_5 : decode cX11_openOf 5 = .ok (.aload_n 0, 1) := by decide +kernel
theorem dX11_openOf_6 : decode cX11_openOf 6 = .ok (.getfield 128, 3) := by decide +kernel
theorem dX11_openOf_9 : decode cX11_openOf 9 = .ok (.if_icmp .ge 42, 3) := by decide +kernel
theorem dX11_openOf_12 : decode cX11_openOf 12 = .ok (.iload_n 2, 1) := by decide +kernel
theorem dX11_openOf_13 : decode cX11_openOf 13 = .ok (.aload_n 0, 1) := by decide +kernel
theorem dX11_openOf_14 : decode cX11_openOf 14 = .ok (.getfield 31, 3) := by decide +kernel
theorem dX11_openOf_17 : decode cX11_openOf 17 = .ok (.bipush 36, 2) := by decide +kernel
theorem dX11_openOf_19 : decode cX11_openOf 19 = .ok (.iaload, 1) := by decide +kernel
theorem dX11_openOf_20 : decode cX11_openOf 20 = .ok (.iload_n 3, 1) := by decide +kernel
theorem dX11_openOf_21 : decode cX11_openOf 21 = .ok (.invokestatic 262, 3) := by decide +kernel
theorem dX11_openOf_24 : decode cX11_openOf 24 = .ok (.ifCond .eq 18, 3) := by decide +kernel
theorem dX11_openOf_27 : decode cX11_openOf 27 = .ok (.aload_n 0, 1) := by decide +kernel
theorem dX11_openOf_28 : decode cX11_openOf 28 = .ok (.iload_n 3, 1) := by decide +kernel
theorem dX11_openOf_29 : decode cX11_openOf 29 = .ok (.iload_n 1, 1) := by decide +kernel
theorem dX11_openOf_30 : decode cX11_openOf 30 = .ok (.invokevirtual 266, 3) := by decide +kernel
theorem dX11_openOf_33 : decode cX11_openOf 33 = .ok (.ifCond .eq 9, 3) := by decide +kernel
theorem dX11_openOf_36 : decode cX11_openOf 36 = .ok (.iconst 1, 1) := by decide +kernel
theorem dX11_openOf_37 : decode cX11_openOf 37 = .ok (.iload_n 3, 1) := by decide +kernel
theorem dX11_openOf_38 : decode cX11_openOf 38 = .ok (.ishl, 1) := by decide +kernel
theorem dX11_openOf_39 : decode cX11_openOf 39 = .ok (.goto 4, 3) := by decide +kernel
theorem dX11_openOf_42 : decode cX11_openOf 42 = .ok (.iconst 0, 1) := by decide +kernel
theorem dX11_openOf_43 : decode cX11_openOf 43 = .ok (.ior, 1) := by decide +kernel
theorem dX11_openOf_44 : decode cX11_openOf 44 = .ok (.istore_n 2, 1) := by decide +kernel
theorem dX11_openOf_45 : decode cX11_openOf 45 = .ok (.iinc 3 1, 3) := by decide +kernel
theorem dX11_openOf_48 : decode cX11_openOf 48 = .ok (.goto (-44), 3) := by decide +kernel
theorem dX11_openOf_51 : decode cX11_openOf 51 = .ok (.iload_n 2, 1) := by decide +kernel
theorem dX11_openOf_52 : decode cX11_openOf 52 = .ok (.ireturn, 1) := by decide +kernel
theorem dX11_cavern_0 : decode cX11_cavern 0 = .ok (.aload_n 0, 1) := by decide +kernel
theorem dX11_cavern_1 : decode cX11_cavern 1 = .ok (.iconst 0, 1) := by decide +kernel
theorem dX11_cavern_2 : decode cX11_cavern 2 = .ok (.putfield 3, 3) := by decide +kernel
theorem dX11_cavern_5 : decode cX11_cavern 5 = .ok (.iload_n 1, 1) := by decide +kernel
theorem dX11_cavern_6 : decode cX11_cavern 6 = .ok (.invokestatic 256, 3) := by decide +kernel
theorem dX11_cavern_9 : decode cX11_cavern 9 = .ok (.ifCond .eq 15, 3) := by decide +kernel
theorem dX11_cavern_12 : decode cX11_cavern 12 = .ok (.iload_n 2, 1) := by decide +kernel
theorem dX11_cavern_13 : decode cX11_cavern 13 = .ok (.i2l, 1) := by decide +kernel
theorem dX11_cavern_14 : decode cX11_cavern 14 = .ok (.lconst 0, 1) := by decide +kernel
theorem dX11_cavern_15 : decode cX11_cavern 15 = .ok (.ldc2_w 300, 3) := by decide +kernel
theorem dX11_cavern_18 : decode cX11_cavern 18 = .ok (.invokestatic 131, 3) := by decide +kernel
theorem dX11_cavern_21 : decode cX11_cavern 21 = .ok (.ifCond .ne 8, 3) := by decide +kernel
theorem dX11_cavern_24 : decode cX11_cavern 24 = .ok (.aload_n 0, 1) := by decide +kernel
theorem dX11_cavern_25 : decode cX11_cavern 25 = .ok (.invokevirtual 287, 3) := by decide +kernel
theorem dX11_cavern_28 : decode cX11_cavern 28 = .ok (.ireturn, 1) := by decide +kernel
theorem dX11_cavern_29 : decode cX11_cavern 29 = .ok (.aload_n 0, 1) := by decide +kernel
theorem dX11_cavern_30 : decode cX11_cavern 30 = .ok (.aload_n 0, 1) := by decide +kernel
theorem dX11_cavern_31 : decode cX11_cavern 31 = .ok (.getfield 31, 3) := by decide +kernel
theorem dX11_cavern_34 : decode cX11_cavern 34 = .ok (.bipush 36, 2) := by decide +kernel
theorem dX11_cavern_36 : decode cX11_cavern 36 = .ok (.iaload, 1) := by decide +kernel
theorem dX11_cavern_37 : decode cX11_cavern 37 = .ok (.invokevirtual 302, 3) := by decide +kernel
theorem dX11_cavern_40 : decode cX11_cavern 40 = .ok (.iload_n 2, 1) := by decide +kernel
theorem dX11_cavern_41 : decode cX11_cavern 41 = .ok (.ifCond .ne 11, 3) := by decide +kernel
theorem dX11_cavern_44 : decode cX11_cavern 44 = .ok (.aload_n 0, 1) := by decide +kernel
theorem dX11_cavern_45 : decode cX11_cavern 45 = .ok (.iload_n 1, 1) := by decide +kernel
theorem dX11_cavern_46 : decode cX11_cavern 46 = .ok (.invokevirtual 305, 3) := by decide +kernel
theorem dX11_cavern_49 : decode cX11_cavern 49 = .ok (.goto 21, 3) := by decide +kernel
theorem dX11_cavern_52 : decode cX11_cavern 52 = .ok (.iload_n 2, 1) := by decide +kernel
theorem dX11_cavern_53 : decode cX11_cavern 53 = .ok (.iconst 1, 1) := by decide +kernel
theorem dX11_cavern_54 : decode cX11_cavern 54 = .ok (.if_icmp .ne 11, 3) := by decide +kernel
theorem dX11_cavern_57 : decode cX11_cavern 57 = .ok (.aload_n 0, 1) := by decide +kernel
theorem dX11_cavern_58 : decode cX11_cavern 58 = .ok (.iload_n 1, 1) := by decide +kernel
theorem dX11_cavern_59 : decode cX11_cavern 59 = .ok (.invokevirtual 308, 3) := by decide +kernel
theorem dX11_cavern_62 : decode cX11_cavern 62 = .ok (.goto 8, 3) := by decide +kernel
theorem dX11_cavern_65 : decode cX11_cavern 65 = .ok (.aload_n 0, 1) := by decide +kernel
theorem dX11_cavern_66 : decode cX11_cavern 66 = .ok (.iload_n 1, 1) := by decide +kernel
theorem dX11_cavern_67 : decode cX11_cavern 67 = .ok (.invokevirtual 311, 3) := by decide +kernel
theorem dX11_cavern_70 : decode cX11_cavern 70 = .ok (.ireturn, 1) := by decide +kernel
theorem dX11_sheet_0 : decode cX11_sheet 0 = .ok (.aload_n 0, 1) := by decide +kernel
theorem dX11_sheet_1 : decode cX11_sheet 1 = .ok (.iconst 0, 1) := by decide +kernel
theorem dX11_sheet_2 : decode cX11_sheet 2 = .ok (.putfield 3, 3) := by decide +kernel
theorem dX11_sheet_5 : decode cX11_sheet 5 = .ok (.iload_n 1, 1) := by decide +kernel
theorem dX11_sheet_6 : decode cX11_sheet 6 = .ok (.i2l, 1) := by decide +kernel
theorem dX11_sheet_7 : decode cX11_sheet 7 = .ok (.lconst 0, 1) := by decide +kernel
theorem dX11_sheet_8 : decode cX11_sheet 8 = .ok (.ldc2_w 314, 3) := by decide +kernel
theorem dX11_sheet_11 : decode cX11_sheet 11 = .ok (.invokestatic 131, 3) := by decide +kernel
theorem dX11_sheet_14 : decode cX11_sheet 14 = .ok (.ifCond .eq 9, 3) := by decide +kernel
theorem dX11_sheet_17 : decode cX11_sheet 17 = .ok (.iload_n 2, 1) := by decide +kernel
theorem dX11_sheet_18 : decode cX11_sheet 18 = .ok (.bipush 12, 2) := by decide +kernel
theorem dX11_sheet_20 : decode cX11_sheet 20 = .ok (.if_icmp .le 5, 3) := by decide +kernel
theorem dX11_sheet_23 : decode cX11_sheet 23 = .ok (.iconst (-1), 1) := by decide +kernel
theorem dX11_sheet_24 : decode cX11_sheet 24 = .ok (.ireturn, 1) := by decide +kernel
theorem dX11_sheet_25 : decode cX11_sheet 25 = .ok (.iload_n 1, 1) := by decide +kernel
theorem dX11_sheet_26 : decode cX11_sheet 26 = .ok (.iconst 3, 1) := by decide +kernel
theorem dX11_sheet_27 : decode cX11_sheet 27 = .ok (.if_icmp .eq 10, 3) := by decide +kernel
theorem dX11_sheet_30 : decode cX11_sheet 30 = .ok (.iload_n 2, 1) := by decide +kernel
theorem dX11_sheet_31 : decode cX11_sheet 31 = .ok (.ifCond .ge 6, 3) := by decide +kernel
theorem dX11_sheet_34 : decode cX11_sheet 34 = .ok (.bipush (-2), 2) := by decide +kernel
theorem dX11_sheet_36 : decode cX11_sheet 36 = .ok (.ireturn, 1) := by decide +kernel
theorem dX11_sheet_37 : decode cX11_sheet 37 = .ok (.iload_n 3, 1) := by decide +kernel
theorem dX11_sheet_38 : decode cX11_sheet 38 = .ok (.istore 5, 2) := by decide +kernel
theorem dX11_sheet_40 : decode cX11_sheet 40 = .ok (.iconst 0, 1) := by decide +kernel
theorem dX11_sheet_41 : decode cX11_sheet 41 = .ok (.istore 6, 2) := by decide +kernel
theorem dX11_sheet_43 : decode cX11_sheet 43 = .ok (.iload 6, 2) := by decide +kernel
theorem dX11_sheet_45 : decode cX11_sheet 45 = .ok (.aload_n 0, 1) := by decide +kernel
theorem dX11_sheet_46 : decode cX11_sheet 46 = .ok (.getfield 128, 3) := by decide +kernel
theorem dX11_sheet_49 : decode cX11_sheet 49 = .ok (.if_icmp .ge 77, 3) := by decide +kernel
theorem dX11_sheet_52 : decode cX11_sheet 52 = .ok (.iload_n 1, 1) := by decide +kernel
theorem dX11_sheet_53 : decode cX11_sheet 53 = .ok (.ifCond .ne 9, 3) := by decide +kernel
theorem dX11_sheet_56 : decode cX11_sheet 56 = .ok (.iload 5, 2) := by decide +kernel
theorem dX11_sheet_58 : decode cX11_sheet 58 = .ok (.i2b, 1) := by decide +kernel
theorem dX11_sheet_59 : decode cX11_sheet 59 = .ok (.goto 16, 3) := by decide +kernel
theorem dX11_sheet_62 : decode cX11_sheet 62 = .ok (.iload_n 1, 1) := by decide +kernel
theorem dX11_sheet_63 : decode cX11_sheet 63 = .ok (.iconst 1, 1) := by decide +kernel
theorem dX11_sheet_64 : decode cX11_sheet 64 = .ok (.if_icmp .ne 9, 3) := by decide +kernel
theorem dX11_sheet_67 : decode cX11_sheet 67 = .ok (.iload 5, 2) := by decide +kernel
theorem dX11_sheet_69 : decode cX11_sheet 69 = .ok (.i2s, 1) := by decide +kernel
theorem dX11_sheet_70 : decode cX11_sheet 70 = .ok (.goto 5, 3) := by decide +kernel
theorem dX11_sheet_73 : decode cX11_sheet 73 = .ok (.iload 5, 2) := by decide +kernel
theorem dX11_sheet_75 : decode cX11_sheet 75 = .ok (.istore 7, 2) := by decide +kernel
theorem dX11_sheet_77 : decode cX11_sheet 77 = .ok (.aload_n 0, 1) := by decide +kernel
theorem dX11_sheet_78 : decode cX11_sheet 78 = .ok (.getfield 31, 3) := by decide +kernel
theorem dX11_sheet_81 : decode cX11_sheet 81 = .ok (.bipush 24, 2) := by decide +kernel
theorem dX11_sheet_83 : decode cX11_sheet 83 = .ok (.iload 6, 2) := by decide +kernel
theorem dX11_sheet_85 : decode cX11_sheet 85 = .ok (.iadd, 1) := by decide +kernel
theorem dX11_sheet_86 : decode cX11_sheet 86 = .ok (.iload_n 1, 1) := by decide +kernel
theorem dX11_sheet_87 : decode cX11_sheet 87 = .ok (.iconst 3, 1) := by decide +kernel
theorem dX11_sheet_88 : decode cX11_sheet 88 = .ok (.if_icmp .eq 9, 3) := by decide +kernel
theorem dX11_sheet_91 : decode cX11_sheet 91 = .ok (.iload 6, 2) := by decide +kernel
theorem dX11_sheet_93 : decode cX11_sheet 93 = .ok (.iload_n 2, 1) := by decide +kernel
theorem dX11_sheet_94 : decode cX11_sheet 94 = .ok (.if_icmp .lt 7, 3) := by decide +kernel
theorem dX11_sheet_97 : decode cX11_sheet 97 = .ok (.iconst 0, 1) := by decide +kernel
theorem dX11_sheet_98 : decode cX11_sheet 98 = .ok (.goto 14, 3) := by decide +kernel
theorem dX11_sheet_101 : decode cX11_sheet 101 = .ok (.iconst 0, 1) := by decide +kernel
theorem dX11_sheet_102 : decode cX11_sheet 102 = .ok (.bipush 9, 2) := by decide +kernel
theorem dX11_sheet_104 : decode cX11_sheet 104 = .ok (.iload 7, 2) := by decide +kernel
theorem dX11_sheet_106 : decode cX11_sheet 106 = .ok (.invokestatic 146, 3) := by decide +kernel
theorem dX11_sheet_109 : decode cX11_sheet 109 = .ok (.invokestatic 297, 3) := by decide +kernel
theorem dX11_sheet_112 : decode cX11_sheet 112 = .ok (.iastore, 1) := by decide +kernel
theorem dX11_sheet_113 : decode cX11_sheet 113 = .ok (.iload 5, 2) := by decide +kernel
theorem dX11_sheet_115 : decode cX11_sheet 115 = .ok (.iload 4, 2) := by decide +kernel
theorem dX11_sheet_117 : decode cX11_sheet 117 = .ok (.iadd, 1) := by decide +kernel
theorem dX11_sheet_118 : decode cX11_sheet 118 = .ok (.istore 5, 2) := by decide +kernel
theorem dX11_sheet_120 : decode cX11_sheet 120 = .ok (.iinc 6 1, 3) := by decide +kernel
theorem dX11_sheet_123 : decode cX11_sheet 123 = .ok (.goto (-80), 3) := by decide +kernel
theorem dX11_sheet_126 : decode cX11_sheet 126 = .ok (.iload_n 1, 1) := by decide +kernel
theorem dX11_sheet_127 : decode cX11_sheet 127 = .ok (.iconst 3, 1) := by decide +kernel
theorem dX11_sheet_128 : decode cX11_sheet 128 = .ok (.if_icmp .ne 8, 3) := by decide +kernel
theorem dX11_sheet_131 : decode cX11_sheet 131 = .ok (.bipush (-3), 2) := by decide +kernel
theorem dX11_sheet_133 : decode cX11_sheet 133 = .ok (.goto 13, 3) := by decide +kernel
theorem dX11_sheet_136 : decode cX11_sheet 136 = .ok (.aload_n 0, 1) := by decide +kernel
theorem dX11_sheet_137 : decode cX11_sheet 137 = .ok (.aload_n 0, 1) := by decide +kernel
theorem dX11_sheet_138 : decode cX11_sheet 138 = .ok (.getfield 31, 3) := by decide +kernel
theorem dX11_sheet_141 : decode cX11_sheet 141 = .ok (.bipush 24, 2) := by decide +kernel
theorem dX11_sheet_143 : decode cX11_sheet 143 = .ok (.invokevirtual 316, 3) := by decide +kernel
theorem dX11_sheet_146 : decode cX11_sheet 146 = .ok (.ireturn, 1) := by decide +kernel
theorem dX11_putsBy_0 : decode cX11_putsBy 0 = .ok (.iconst 0, 1) := by decide +kernel
theorem dX11_putsBy_1 : decode cX11_putsBy 1 = .ok (.istore_n 1, 1) := by decide +kernel
theorem dX11_putsBy_2 : decode cX11_putsBy 2 = .ok (.iload_n 1, 1) := by decide +kernel
theorem dX11_putsBy_3 : decode cX11_putsBy 3 = .ok (.bipush 39, 2) := by decide +kernel
theorem dX11_putsBy_5 : decode cX11_putsBy 5 = .ok (.if_icmp .ge 29, 3) := by decide +kernel
theorem dX11_putsBy_8 : decode cX11_putsBy 8 = .ok (.aload_n 0, 1) := by decide +kernel
theorem dX11_putsBy_9 : decode cX11_putsBy 9 = .ok (.getfield 65, 3) := by decide +kernel
theorem dX11_putsBy_12 : decode cX11_putsBy 12 = .ok (.bipush 39, 2) := by decide +kernel
theorem dX11_putsBy_14 : decode cX11_putsBy 14 = .ok (.aload_n 0, 1) := by decide +kernel
theorem dX11_putsBy_15 : decode cX11_putsBy 15 = .ok (.getfield 206, 3) := by decide +kernel
theorem dX11_putsBy_18 : decode cX11_putsBy 18 = .ok (.imul, 1) := by decide +kernel
theorem dX11_putsBy_19 : decode cX11_putsBy 19 = .ok (.iload_n 1, 1) := by decide +kernel
theorem dX11_putsBy_20 : decode cX11_putsBy 20 = .ok (.iadd, 1) := by decide +kernel
theorem dX11_putsBy_21 : decode cX11_putsBy 21 = .ok (.aload_n 0, 1) := by decide +kernel
theorem dX11_putsBy_22 : decode cX11_putsBy 22 = .ok (.getfield 31, 3) := by decide +kernel
theorem dX11_putsBy_25 : decode cX11_putsBy 25 = .ok (.iload_n 1, 1) := by decide +kernel
theorem dX11_putsBy_26 : decode cX11_putsBy 26 = .ok (.iaload, 1) := by decide +kernel
theorem dX11_putsBy_27 : decode cX11_putsBy 27 = .ok (.iastore, 1) := by decide +kernel
theorem dX11_putsBy_28 : decode cX11_putsBy 28 = .ok (.iinc 1 1, 3) := by decide +kernel
theorem dX11_putsBy_31 : decode cX11_putsBy 31 = .ok (.goto (-29), 3) := by decide +kernel
theorem dX11_putsBy_34 : decode cX11_putsBy 34 = .ok (.return_, 1) := by decide +kernel
theorem dX11_adds_0 : decode cX11_adds 0 = .ok (.aload_n 0, 1) := by decide +kernel
theorem dX11_adds_1 : decode cX11_adds 1 = .ok (.dup, 1) := by decide +kernel
theorem dX11_adds_2 : decode cX11_adds 2 = .ok (.getfield 206, 3) := by decide +kernel
theorem dX11_adds_5 : decode cX11_adds 5 = .ok (.iconst 1, 1) := by decide +kernel
theorem dX11_adds_6 : decode cX11_adds 6 = .ok (.iadd, 1) := by decide +kernel
theorem dX11_adds_7 : decode cX11_adds 7 = .ok (.putfield 206, 3) := by decide +kernel
theorem dX11_adds_10 : decode cX11_adds 10 = .ok (.aload_n 0, 1) := by decide +kernel
theorem dX11_adds_11 : decode cX11_adds 11 = .ok (.getfield 206, 3) := by decide +kernel
theorem dX11_adds_14 : decode cX11_adds 14 = .ok (.bipush 15, 2) := by decide +kernel
theorem dX11_adds_16 : decode cX11_adds 16 = .ok (.if_icmp .le 43, 3) := by decide +kernel
theorem dX11_adds_19 : decode cX11_adds 19 = .ok (.iconst 0, 1) := by decide +kernel
theorem dX11_adds_20 : decode cX11_adds 20 = .ok (.istore_n 2, 1) := by decide +kernel
theorem dX11_adds_21 : decode cX11_adds 21 = .ok (.iload_n 2, 1) := by decide +kernel
theorem dX11_adds_22 : decode cX11_adds 22 = .ok (.sipush 585, 3) := by decide +kernel
theorem dX11_adds_25 : decode cX11_adds 25 = .ok (.if_icmp .ge 24, 3) := by decide +kernel
theorem dX11_adds_28 : decode cX11_adds 28 = .ok (.aload_n 0, 1) := by decide +kernel
theorem dX11_adds_29 : decode cX11_adds 29 = .ok (.getfield 65, 3) := by decide +kernel
theorem dX11_adds_32 : decode cX11_adds 32 = .ok (.iload_n 2, 1) := by decide +kernel
theorem dX11_adds_33 : decode cX11_adds 33 = .ok (.aload_n 0, 1) := by decide +kernel
theorem dX11_adds_34 : decode cX11_adds 34 = .ok (.getfield 65, 3) := by decide +kernel
theorem dX11_adds_37 : decode cX11_adds 37 = .ok (.iload_n 2, 1) := by decide +kernel
theorem dX11_adds_38 : decode cX11_adds 38 = .ok (.bipush 39, 2) := by decide +kernel
theorem dX11_adds_40 : decode cX11_adds 40 = .ok (.iadd, 1) := by decide +kernel
theorem dX11_adds_41 : decode cX11_adds 41 = .ok (.iaload, 1) := by decide +kernel
theorem dX11_adds_42 : decode cX11_adds 42 = .ok (.iastore, 1) := by decide +kernel
theorem dX11_adds_43 : decode cX11_adds 43 = .ok (.iinc 2 1, 3) := by decide +kernel
theorem dX11_adds_46 : decode cX11_adds 46 = .ok (.goto (-25), 3) := by decide +kernel
theorem dX11_adds_49 : decode cX11_adds 49 = .ok (.aload_n 0, 1) := by decide +kernel
theorem dX11_adds_50 : decode cX11_adds 50 = .ok (.dup, 1) := by decide +kernel
theorem dX11_adds_51 : decode cX11_adds 51 = .ok (.getfield 206, 3) := by decide +kernel
theorem dX11_adds_54 : decode cX11_adds 54 = .ok (.iconst 1, 1) := by decide +kernel
theorem dX11_adds_55 : decode cX11_adds 55 = .ok (.isub, 1) := by decide +kernel
theorem dX11_adds_56 : decode cX11_adds 56 = .ok (.putfield 206, 3) := by decide +kernel
theorem dX11_adds_59 : decode cX11_adds 59 = .ok (.iload_n 1, 1) := by decide +kernel
theorem dX11_adds_60 : decode cX11_adds 60 = .ok (.ireturn, 1) := by decide +kernel
theorem dX11_counted_0 : decode cX11_counted 0 = .ok (.iload_n 1, 1) := by decide +kernel
theorem dX11_counted_1 : decode cX11_counted 1 = .ok (.ifCond .ge 7, 3) := by decide +kernel
theorem dX11_counted_4 : decode cX11_counted 4 = .ok (.iload_n 1, 1) := by decide +kernel
theorem dX11_counted_5 : decode cX11_counted 5 = .ok (.goto 8, 3) := by decide +kernel
theorem dX11_counted_8 : decode cX11_counted 8 = .ok (.aload_n 0, 1) := by decide +kernel
theorem dX11_counted_9 : decode cX11_counted 9 = .ok (.iload_n 1, 1) := by decide +kernel
theorem dX11_counted_10 : decode cX11_counted 10 = .ok (.invokevirtual 320, 3) := by decide +kernel
theorem dX11_counted_13 : decode cX11_counted 13 = .ok (.ireturn, 1) := by decide +kernel
