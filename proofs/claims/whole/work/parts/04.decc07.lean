theorem dX11_tour_159 : decode cX11_tour 159 = .ok (.istore 6, 2) := by decide +kernel
theorem dX11_tour_161 : decode cX11_tour 161 = .ok (.iinc 7 1, 3) := by decide +kernel
theorem dX11_tour_164 : decode cX11_tour 164 = .ok (.goto (-60), 3) := by decide +kernel
theorem dX11_tour_167 : decode cX11_tour 167 = .ok (.aload_n 0, 1) := by decide +kernel
theorem dX11_tour_168 : decode cX11_tour 168 = .ok (.getfield 89, 3) := by decide +kernel
theorem dX11_tour_171 : decode cX11_tour 171 = .ok (.iload 4, 2) := by decide +kernel
theorem dX11_tour_173 : decode cX11_tour 173 = .ok (.iload 5, 2) := by decide +kernel
theorem dX11_tour_175 : decode cX11_tour 175 = .ok (.invokestatic 400, 3) := by decide +kernel
theorem dX11_tour_178 : decode cX11_tour 178 = .ok (.iload 6, 2) := by decide +kernel
theorem dX11_tour_180 : decode cX11_tour 180 = .ok (.iastore, 1) := by decide +kernel
theorem dX11_tour_181 : decode cX11_tour 181 = .ok (.iinc 5 1, 3) := by decide +kernel
theorem dX11_tour_184 : decode cX11_tour 184 = .ok (.goto (-110), 3) := by decide +kernel
theorem dX11_tour_187 : decode cX11_tour 187 = .ok (.iinc 4 1, 3) := by decide +kernel
theorem dX11_tour_190 : decode cX11_tour 190 = .ok (.goto (-127), 3) := by decide +kernel
theorem dX11_tour_193 : decode cX11_tour 193 = .ok (.aload_n 0, 1) := by decide +kernel
theorem dX11_tour_194 : decode cX11_tour 194 = .ok (.iconst 0, 1) := by decide +kernel
theorem dX11_tour_195 : decode cX11_tour 195 = .ok (.putfield 15, 3) := by decide +kernel
theorem dX11_tour_198 : decode cX11_tour 198 = .ok (.iload_n 1, 1) := by decide +kernel
theorem dX11_tour_199 : decode cX11_tour 199 = .ok (.istore 4, 2) := by decide +kernel
theorem dX11_tour_201 : decode cX11_tour 201 = .ok (.iload_n 3, 1) := by decide +kernel
theorem dX11_tour_202 : decode cX11_tour 202 = .ok (.istore 5, 2) := by decide +kernel
theorem dX11_tour_204 : decode cX11_tour 204 = .ok (.iload 5, 2) := by decide +kernel
theorem dX11_tour_206 : decode cX11_tour 206 = .ok (.ifCond .eq 90, 3) := by decide +kernel
theorem dX11_tour_209 : decode cX11_tour 209 = .ok (.iconst 0, 1) := by decide +kernel
theorem dX11_tour_210 : decode cX11_tour 210 = .ok (.istore 6, 2) := by decide +kernel
theorem dX11_tour_212 : decode cX11_tour 212 = .ok (.iload 5, 2) := by decide +kernel
theorem dX11_tour_214 : decode cX11_tour 214 = .ok (.iload 6, 2) := by decide +kernel
theorem dX11_tour_216 : decode cX11_tour 216 = .ok (.invokestatic 262, 3) := by decide +kernel
theorem dX11_tour_219 : decode cX11_tour 219 = .ok (.ifCond .eq 46, 3) := by decide +kernel
theorem dX11_tour_222 : decode cX11_tour 222 = .ok (.aload_n 0, 1) := by decide +kernel
theorem dX11_tour_223 : decode cX11_tour 223 = .ok (.iload 4, 2) := by decide +kernel
theorem dX11_tour_225 : decode cX11_tour 225 = .ok (.iload 6, 2) := by decide +kernel
theorem dX11_tour_227 : decode cX11_tour 227 = .ok (.invokevirtual 291, 3) := by decide +kernel
theorem dX11_tour_230 : decode cX11_tour 230 = .ok (.aload_n 0, 1) := by decide +kernel
theorem dX11_tour_231 : decode cX11_tour 231 = .ok (.getfield 89, 3) := by decide +kernel
theorem dX11_tour_234 : decode cX11_tour 234 = .ok (.iload 5, 2) := by decide +kernel
theorem dX11_tour_236 : decode cX11_tour 236 = .ok (.iconst 1, 1) := by decide +kernel
theorem dX11_tour_237 : decode cX11_tour 237 = .ok (.iload 6, 2) := by decide +kernel
theorem dX11_tour_239 : decode cX11_tour 239 = .ok (.ishl, 1) := by decide +kernel
theorem dX11_tour_240 : decode cX11_tour 240 = .ok (.iconst (-1), 1) := by decide +kernel
theorem dX11_tour_241 : decode cX11_tour 241 = .ok (.ixor, 1) := by decide +kernel
theorem dX11_tour_242 : decode cX11_tour 242 = .ok (.iand, 1) := by decide +kernel
theorem dX11_tour_243 : decode cX11_tour 243 = .ok (.iload 6, 2) := by decide +kernel
theorem dX11_tour_245 : decode cX11_tour 245 = .ok (.invokestatic 400, 3) := by decide +kernel
theorem dX11_tour_248 : decode cX11_tour 248 = .ok (.iaload, 1) := by decide +kernel
theorem dX11_tour_249 : decode cX11_tour 249 = .ok (.iadd, 1) := by decide +kernel
theorem dX11_tour_250 : decode cX11_tour 250 = .ok (.aload_n 0, 1) := by decide +kernel
theorem dX11_tour_251 : decode cX11_tour 251 = .ok (.getfield 89, 3) := by decide +kernel
theorem dX11_tour_254 : decode cX11_tour 254 = .ok (.iload 5, 2) := by decide +kernel
theorem dX11_tour_256 : decode cX11_tour 256 = .ok (.iload 4, 2) := by decide +kernel
theorem dX11_tour_258 : decode cX11_tour 258 = .ok (.invokestatic 400, 3) := by decide +kernel
theorem dX11_tour_261 : decode cX11_tour 261 = .ok (.iaload, 1) := by decide +kernel
theorem dX11_tour_262 : decode cX11_tour 262 = .ok (.if_icmp .eq 9, 3) := by decide +kernel
theorem dX11_tour_265 : decode cX11_tour 265 = .ok (.iinc 6 1, 3) := by decide +kernel
theorem dX11_tour_268 : decode cX11_tour 268 = .ok (.goto (-56), 3) := by decide +kernel
theorem dX11_tour_271 : decode cX11_tour 271 = .ok (.iload 5, 2) := by decide +kernel
theorem dX11_tour_273 : decode cX11_tour 273 = .ok (.iconst 1, 1) := by decide +kernel
theorem dX11_tour_274 : decode cX11_tour 274 = .ok (.iload 6, 2) := by decide +kernel
theorem dX11_tour_276 : decode cX11_tour 276 = .ok (.ishl, 1) := by decide +kernel
theorem dX11_tour_277 : decode cX11_tour 277 = .ok (.iconst (-1), 1) := by decide +kernel
theorem dX11_tour_278 : decode cX11_tour 278 = .ok (.ixor, 1) := by decide +kernel
theorem dX11_tour_279 : decode cX11_tour 279 = .ok (.iand, 1) := by decide +kernel
theorem dX11_tour_280 : decode cX11_tour 280 = .ok (.istore 5, 2) := by decide +kernel
theorem dX11_tour_282 : decode cX11_tour 282 = .ok (.iload 6, 2) := by decide +kernel
theorem dX11_tour_284 : decode cX11_tour 284 = .ok (.istore 4, 2) := by decide +kernel
theorem dX11_tour_286 : decode cX11_tour 286 = .ok (.aload_n 0, 1) := by decide +kernel
theorem dX11_tour_287 : decode cX11_tour 287 = .ok (.iload 4, 2) := by decide +kernel
theorem dX11_tour_289 : decode cX11_tour 289 = .ok (.i2l, 1) := by decide +kernel
theorem dX11_tour_290 : decode cX11_tour 290 = .ok (.invokevirtual 340, 3) := by decide +kernel
theorem dX11_tour_293 : decode cX11_tour 293 = .ok (.goto (-89), 3) := by decide +kernel
theorem dX11_tour_296 : decode cX11_tour 296 = .ok (.aload_n 0, 1) := by decide +kernel
theorem dX11_tour_297 : decode cX11_tour 297 = .ok (.getfield 89, 3) := by decide +kernel
theorem dX11_tour_300 : decode cX11_tour 300 = .ok (.iload_n 3, 1) := by decide +kernel
theorem dX11_tour_301 : decode cX11_tour 301 = .ok (.iload_n 1, 1) := by decide +kernel
theorem dX11_tour_302 : decode cX11_tour 302 = .ok (.invokestatic 400, 3) := by decide +kernel
theorem dX11_tour_305 : decode cX11_tour 305 = .ok (.iaload, 1) := by decide +kernel
theorem dX11_tour_306 : decode cX11_tour 306 = .ok (.ireturn, 1) := by decide +kernel
theorem dX11_halves_0 : decode cX11_halves 0 = .ok (.aload_n 0, 1) := by decide +kernel
theorem dX11_halves_1 : decode cX11_halves 1 = .ok (.iconst 0, 1) := by decide +kernel
theorem dX11_halves_2 : decode cX11_halves 2 = .ok (.putfield 3, 3) := by decide +kernel
theorem dX11_halves_5 : decode cX11_halves 5 = .ok (.aload_n 0, 1) := by decide +kernel
theorem dX11_halves_6 : decode cX11_halves 6 = .ok (.aload_n 0, 1) := by decide +kernel
theorem dX11_halves_7 : decode cX11_halves 7 = .ok (.getfield 31, 3) := by decide +kernel
theorem dX11_halves_10 : decode cX11_halves 10 = .ok (.bipush 36, 2) := by decide +kernel
theorem dX11_halves_12 : decode cX11_halves 12 = .ok (.iaload, 1) := by decide +kernel
theorem dX11_halves_13 : decode cX11_halves 13 = .ok (.invokevirtual 302, 3) := by decide +kernel
theorem dX11_halves_16 : decode cX11_halves 16 = .ok (.aload_n 0, 1) := by decide +kernel
theorem dX11_halves_17 : decode cX11_halves 17 = .ok (.invokevirtual 392, 3) := by decide +kernel
theorem dX11_halves_20 : decode cX11_halves 20 = .ok (.istore_n 1, 1) := by decide +kernel
theorem dX11_halves_21 : decode cX11_halves 21 = .ok (.iconst 0, 1) := by decide +kernel
theorem dX11_halves_22 : decode cX11_halves 22 = .ok (.istore_n 2, 1) := by decide +kernel
theorem dX11_halves_23 : decode cX11_halves 23 = .ok (.iconst 0, 1) := by decide +kernel
theorem dX11_halves_24 : decode cX11_halves 24 = .ok (.istore_n 3, 1) := by decide +kernel
theorem dX11_halves_25 : decode cX11_halves 25 = .ok (.iconst 0, 1) := by decide +kernel
theorem dX11_halves_26 : decode cX11_halves 26 = .ok (.istore 4, 2) := by decide +kernel
theorem dX11_halves_28 : decode cX11_halves 28 = .ok (.iload 4, 2) := by decide +kernel
theorem dX11_halves_30 : decode cX11_halves 30 = .ok (.bipush 8, 2) := by decide +kernel
theorem dX11_halves_32 : decode cX11_halves 32 = .ok (.if_icmp .ge 43, 3) := by decide +kernel
theorem dX11_halves_35 : decode cX11_halves 35 = .ok (.iload_n 2, 1) := by decide +kernel
theorem dX11_halves_36 : decode cX11_halves 36 = .ok (.iload_n 1, 1) := by decide +kernel
theorem dX11_halves_37 : decode cX11_halves 37 = .ok (.iload 4, 2) := by decide +kernel
theorem dX11_halves_39 : decode cX11_halves 39 = .ok (.invokestatic 262, 3) := by decide +kernel
theorem dX11_halves_42 : decode cX11_halves 42 = .ok (.ifCond .eq 24, 3) := by decide +kernel
theorem dX11_halves_45 : decode cX11_halves 45 = .ok (.aload_n 0, 1) := by decide +kernel
theorem dX11_halves_46 : decode cX11_halves 46 = .ok (.iload 4, 2) := by decide +kernel
theorem dX11_halves_48 : decode cX11_halves 48 = .ok (.invokevirtual 308, 3) := by decide +kernel
theorem dX11_halves_51 : decode cX11_halves 51 = .ok (.invokestatic 395, 3) := by decide +kernel
theorem dX11_halves_54 : decode cX11_halves 54 = .ok (.iload 4, 2) := by decide +kernel
theorem dX11_halves_56 : decode cX11_halves 56 = .ok (.if_icmp .ne 10, 3) := by decide +kernel
theorem dX11_halves_59 : decode cX11_halves 59 = .ok (.iconst 1, 1) := by decide +kernel
theorem dX11_halves_60 : decode cX11_halves 60 = .ok (.iload 4, 2) := by decide +kernel
theorem dX11_halves_62 : decode cX11_halves 62 = .ok (.ishl, 1) := by decide +kernel
theorem dX11_halves_63 : decode cX11_halves 63 = .ok (.goto 4, 3) := by decide +kernel
theorem dX11_halves_66 : decode cX11_halves 66 = .ok (.iconst 0, 1) := by decide +kernel
theorem dX11_halves_67 : decode cX11_halves 67 = .ok (.ior, 1) := by decide +kernel
theorem dX11_halves_68 : decode cX11_halves 68 = .ok (.istore_n 2, 1) := by decide +kernel
theorem dX11_halves_69 : decode cX11_halves 69 = .ok (.iinc 4 1, 3) := by decide +kernel
theorem dX11_halves_72 : decode cX11_halves 72 = .ok (.goto (-44), 3) := by decide +kernel
theorem dX11_halves_75 : decode cX11_halves 75 = .ok (.iconst 0, 1) := by decide +kernel
theorem dX11_halves_76 : decode cX11_halves 76 = .ok (.istore 4, 2) := by decide +kernel
theorem dX11_halves_78 : decode cX11_halves 78 = .ok (.iload 4, 2) := by decide +kernel
theorem dX11_halves_80 : decode cX11_halves 80 = .ok (.bipush 8, 2) := by decide +kernel
theorem dX11_halves_82 : decode cX11_halves 82 = .ok (.if_icmp .ge 128, 3) := by decide +kernel
theorem dX11_halves_85 : decode cX11_halves 85 = .ok (.iconst 0, 1) := by decide +kernel
theorem dX11_halves_86 : decode cX11_halves 86 = .ok (.istore 5, 2) := by decide +kernel
theorem dX11_halves_88 : decode cX11_halves 88 = .ok (.iload 5, 2) := by decide +kernel
theorem dX11_halves_90 : decode cX11_halves 90 = .ok (.aload_n 0, 1) := by decide +kernel
theorem dX11_halves_91 : decode cX11_halves 91 = .ok (.getfield 128, 3) := by decide +kernel
theorem dX11_halves_94 : decode cX11_halves 94 = .ok (.if_icmp .ge 110, 3) := by decide +kernel
theorem dX11_halves_97 : decode cX11_halves 97 = .ok (.aload_n 0, 1) := by decide +kernel
theorem dX11_halves_98 : decode cX11_halves 98 = .ok (.getfield 31, 3) := by decide +kernel
theorem dX11_halves_101 : decode cX11_halves 101 = .ok (.bipush 36, 2) := by decide +kernel
theorem dX11_halves_103 : decode cX11_halves 103 = .ok (.iaload, 1) := by decide +kernel
theorem dX11_halves_104 : decode cX11_halves 104 = .ok (.iload 5, 2) := by decide +kernel
theorem dX11_halves_106 : decode cX11_halves 106 = .ok (.invokestatic 262, 3) := by decide +kernel
theorem dX11_halves_109 : decode cX11_halves 109 = .ok (.ifCond .eq 89, 3) := by decide +kernel
theorem dX11_halves_112 : decode cX11_halves 112 = .ok (.iconst 1, 1) := by decide +kernel
theorem dX11_halves_113 : decode cX11_halves 113 = .ok (.aload_n 0, 1) := by decide +kernel
theorem dX11_halves_114 : decode cX11_halves 114 = .ok (.getfield 24, 3) := by decide +kernel
theorem dX11_halves_117 : decode cX11_halves 117 = .ok (.iload 5, 2) := by decide +kernel
theorem dX11_halves_119 : decode cX11_halves 119 = .ok (.iaload, 1) := by decide +kernel
theorem dX11_halves_120 : decode cX11_halves 120 = .ok (.ishl, 1) := by decide +kernel
theorem dX11_halves_121 : decode cX11_halves 121 = .ok (.istore 6, 2) := by decide +kernel
theorem dX11_halves_123 : decode cX11_halves 123 = .ok (.iconst 1, 1) := by decide +kernel
theorem dX11_halves_124 : decode cX11_halves 124 = .ok (.aload_n 0, 1) := by decide +kernel
theorem dX11_halves_125 : decode cX11_halves 125 = .ok (.getfield 28, 3) := by decide +kernel
theorem dX11_halves_128 : decode cX11_halves 128 = .ok (.iload 5, 2) := by decide +kernel
theorem dX11_halves_130 : decode cX11_halves 130 = .ok (.iaload, 1) := by decide +kernel
theorem dX11_halves_131 : decode cX11_halves 131 = .ok (.ishl, 1) := by decide +kernel
theorem dX11_halves_132 : decode cX11_halves 132 = .ok (.istore 7, 2) := by decide +kernel
theorem dX11_halves_134 : decode cX11_halves 134 = .ok (.iload_n 3, 1) := by decide +kernel
theorem dX11_halves_135 : decode cX11_halves 135 = .ok (.iload_n 2, 1) := by decide +kernel
theorem dX11_halves_136 : decode cX11_halves 136 = .ok (.iload 6, 2) := by decide +kernel
theorem dX11_halves_138 : decode cX11_halves 138 = .ok (.iand, 1) := by decide +kernel
theorem dX11_halves_139 : decode cX11_halves 139 = .ok (.ifCond .eq 8, 3) := by decide +kernel
theorem dX11_halves_142 : decode cX11_halves 142 = .ok (.iload 7, 2) := by decide +kernel
theorem dX11_halves_144 : decode cX11_halves 144 = .ok (.goto 4, 3) := by decide +kernel
theorem dX11_halves_147 : decode cX11_halves 147 = .ok (.iconst 0, 1) := by decide +kernel
theorem dX11_halves_148 : decode cX11_halves 148 = .ok (.ior, 1) := by decide +kernel
theorem dX11_halves_149 : decode cX11_halves 149 = .ok (.istore_n 3, 1) := by decide +kernel
theorem dX11_halves_150 : decode cX11_halves 150 = .ok (.iload_n 3, 1) := by decide +kernel
theorem dX11_halves_151 : decode cX11_halves 151 = .ok (.iload_n 2, 1) := by decide +kernel
theorem dX11_halves_152 : decode cX11_halves 152 = .ok (.iload 7, 2) := by decide +kernel
theorem dX11_halves_154 : decode cX11_halves 154 = .ok (.iand, 1) := by decide +kernel
theorem dX11_halves_155 : decode cX11_halves 155 = .ok (.ifCond .eq 8, 3) := by decide +kernel
theorem dX11_halves_158 : decode cX11_halves 158 = .ok (.iload 6, 2) := by decide +kernel
theorem dX11_halves_160 : decode cX11_halves 160 = .ok (.goto 4, 3) := by decide +kernel
theorem dX11_halves_163 : decode cX11_halves 163 = .ok (.iconst 0, 1) := by decide +kernel
theorem dX11_halves_164 : decode cX11_halves 164 = .ok (.ior, 1) := by decide +kernel
theorem dX11_halves_165 : decode cX11_halves 165 = .ok (.istore_n 3, 1) := by decide +kernel
theorem dX11_halves_166 : decode cX11_halves 166 = .ok (.iload_n 2, 1) := by decide +kernel
theorem dX11_halves_167 : decode cX11_halves 167 = .ok (.iload_n 3, 1) := by decide +kernel
theorem dX11_halves_168 : decode cX11_halves 168 = .ok (.iload 6, 2) := by decide +kernel
theorem dX11_halves_170 : decode cX11_halves 170 = .ok (.iand, 1) := by decide +kernel
theorem dX11_halves_171 : decode cX11_halves 171 = .ok (.ifCond .eq 8, 3) := by decide +kernel
theorem dX11_halves_174 : decode cX11_halves 174 = .ok (.iload 7, 2) := by decide +kernel
theorem dX11_halves_176 : decode cX11_halves 176 = .ok (.goto 4, 3) := by decide +kernel
theorem dX11_halves_179 : decode cX11_halves 179 = .ok (.iconst 0, 1) := by decide +kernel
theorem dX11_halves_180 : decode cX11_halves 180 = .ok (.ior, 1) := by decide +kernel
theorem dX11_halves_181 : decode cX11_halves 181 = .ok (.istore_n 2, 1) := by decide +kernel
theorem dX11_halves_182 : decode cX11_halves 182 = .ok (.iload_n 2, 1) := by decide +kernel
theorem dX11_halves_183 : decode cX11_halves 183 = .ok (.iload_n 3, 1) := by decide +kernel
theorem dX11_halves_184 : decode cX11_halves 184 = .ok (.iload 7, 2) := by decide +kernel
theorem dX11_halves_186 : decode cX11_halves 186 = .ok (.iand, 1) := by decide +kernel
theorem dX11_halves_187 : decode cX11_halves 187 = .ok (.ifCond .eq 8, 3) := by decide +kernel
theorem dX11_halves_190 : decode cX11_halves 190 = .ok (.iload 6, 2) := by decide +kernel
theorem dX11_halves_192 : decode cX11_halves 192 = .ok (.goto 4, 3) := by decide +kernel
theorem dX11_halves_195 : decode cX11_halves 195 = .ok (.iconst 0, 1) := by decide +kernel
theorem dX11_halves_196 : decode cX11_halves 196 = .ok (.ior, 1) := by decide +kernel
theorem dX11_halves_197 : decode cX11_halves 197 = .ok (.istore_n 2, 1) := by decide +kernel
theorem dX11_halves_198 : decode cX11_halves 198 = .ok (.iinc 5 1, 3) := by decide +kernel
theorem dX11_halves_201 : decode cX11_halves 201 = .ok (.goto (-113), 3) := by decide +kernel
theorem dX11_halves_204 : decode cX11_halves 204 = .ok (.iinc 4 1, 3) := by decide +kernel
theorem dX11_halves_207 : decode cX11_halves 207 = .ok (.goto (-129), 3) := by decide +kernel
theorem dX11_halves_210 : decode cX11_halves 210 = .ok (.aload_n 0, 1) := by decide +kernel
theorem dX11_halves_211 : decode cX11_halves 211 = .ok (.iconst 0, 1) := by decide +kernel
theorem dX11_halves_212 : decode cX11_halves 212 = .ok (.putfield 15, 3) := by decide +kernel
theorem dX11_halves_215 : decode cX11_halves 215 = .ok (.iload_n 2, 1) := by decide +kernel
theorem dX11_halves_216 : decode cX11_halves 216 = .ok (.iload_n 3, 1) := by decide +kernel
theorem dX11_halves_217 : decode cX11_halves 217 = .ok (.iand, 1) := by decide +kernel
theorem dX11_halves_218 : decode cX11_halves 218 = .ok (.ifCond .eq 5, 3) := by decide +kernel
theorem dX11_halves_221 : decode cX11_halves 221 = .ok (.iconst 0, 1) := by decide +kernel
theorem dX11_halves_222 : decode cX11_halves 222 = .ok (.ireturn, 1) := by decide +kernel
theorem dX11_halves_223 : decode cX11_halves 223 = .ok (.aload_n 0, 1) := by decide +kernel
theorem dX11_halves_224 : decode cX11_halves 224 = .ok (.iload_n 2, 1) := by decide +kernel
theorem dX11_halves_225 : decode cX11_halves 225 = .ok (.i2l, 1) := by decide +kernel
theorem dX11_halves_226 : decode cX11_halves 226 = .ok (.invokevirtual 340, 3) := by decide +kernel
theorem dX11_halves_229 : decode cX11_halves 229 = .ok (.iconst 1, 1) := by decide +kernel
theorem dX11_halves_230 : decode cX11_halves 230 = .ok (.ireturn, 1) := by decide +kernel
theorem dX11_isFewer_0 : decode cX11_isFewer 0 = .ok (.iload_n 1, 1) := by decide +kernel
theorem dX11_isFewer_1 : decode cX11_isFewer 1 = .ok (.ifCond .lt 14, 3) := by decide +kernel
theorem dX11_isFewer_4 : decode cX11_isFewer 4 = .ok (.iload_n 0, 1) := by decide +kernel
theorem dX11_isFewer_5 : decode cX11_isFewer 5 = .ok (.invokestatic 355, 3) := by decide +kernel
theorem dX11_isFewer_8 : decode cX11_isFewer 8 = .ok (.iload_n 1, 1) := by decide +kernel
theorem dX11_isFewer_9 : decode cX11_isFewer 9 = .ok (.invokestatic 355, 3) := by decide +kernel
theorem dX11_isFewer_12 : decode cX11_isFewer 12 = .ok (.if_icmp .ge 7, 3) := by decide +kernel
theorem dX11_isFewer_15 : decode cX11_isFewer 15 = .ok (.iconst 1, 1) := by decide +kernel
theorem dX11_isFewer_16 : decode cX11_isFewer 16 = .ok (.goto 4, 3) := by decide +kernel
theorem dX11_isFewer_19 : decode cX11_isFewer 19 = .ok (.iconst 0, 1) := by decide +kernel
theorem dX11_isFewer_20 : decode cX11_isFewer 20 = .ok (.ireturn, 1) := by decide +kernel
theorem dX11_guides_0 : decode cX11_guides 0 = .ok (.aload_n 0, 1) := by decide +kernel
theorem dX11_guides_1 : decode cX11_guides 1 = .ok (.iconst 0, 1) := by decide +kernel
theorem dX11_guides_2 : decode cX11_guides 2 = .ok (.putfield 3, 3) := by decide +kernel
theorem dX11_guides_5 : decode cX11_guides 5 = .ok (.iconst (-1), 1) := by decide +kernel
theorem dX11_guides_6 : decode cX11_guides 6 = .ok (.istore_n 1, 1) := by decide +kernel
theorem dX11_guides_7 : decode cX11_guides 7 = .ok (.iconst 0, 1) := by decide +kernel
theorem dX11_guides_8 : decode cX11_guides 8 = .ok (.istore_n 2, 1) := by decide +kernel
theorem dX11_guides_9 : decode cX11_guides 9 = .ok (.iload_n 2, 1) := by decide +kernel
theorem dX11_guides_10 : decode cX11_guides 10 = .ok (.sipush 256, 3) := by decide +kernel
theorem dX11_guides_13 : decode cX11_guides 13 = .ok (.if_icmp .ge 96, 3) := by decide +kernel
theorem dX11_guides_16 : decode cX11_guides 16 = .ok (.iload_n 2, 1) := by decide +kernel
theorem dX11_guides_17 : decode cX11_guides 17 = .ok (.iload_n 1, 1) := by decide +kernel
theorem dX11_guides_18 : decode cX11_guides 18 = .ok (.invokestatic 403, 3) := by decide +kernel
theorem dX11_guides_21 : decode cX11_guides 21 = .ok (.istore_n 3, 1) := by decide +kernel
theorem dX11_guides_22 : decode cX11_guides 22 = .ok (.iconst 0, 1) := by decide +kernel
theorem dX11_guides_23 : decode cX11_guides 23 = .ok (.istore 4, 2) := by decide +kernel
theorem dX11_guides_25 : decode cX11_guides 25 = .ok (.iload 4, 2) := by decide +kernel
theorem dX11_guides_27 : decode cX11_guides 27 = .ok (.aload_n 0, 1) := by decide +kernel
theorem dX11_guides_28 : decode cX11_guides 28 = .ok (.getfield 128, 3) := by decide +kernel
theorem dX11_guides_31 : decode cX11_guides 31 = .ok (.if_icmp .ge 62, 3) := by decide +kernel
theorem dX11_guides_34 : decode cX11_guides 34 = .ok (.iload_n 3, 1) := by decide +kernel
theorem dX11_guides_35 : decode cX11_guides 35 = .ok (.ifCond .eq 50, 3) := by decide +kernel
theorem dX11_guides_38 : decode cX11_guides 38 = .ok (.aload_n 0, 1) := by decide +kernel
theorem dX11_guides_39 : decode cX11_guides 39 = .ok (.getfield 31, 3) := by decide +kernel
theorem dX11_guides_42 : decode cX11_guides 42 = .ok (.bipush 36, 2) := by decide +kernel
theorem dX11_guides_44 : decode cX11_guides 44 = .ok (.iaload, 1) := by decide +kernel
theorem dX11_guides_45 : decode cX11_guides 45 = .ok (.iload 4, 2) := by decide +kernel
theorem dX11_guides_47 : decode cX11_guides 47 = .ok (.invokestatic 262, 3) := by decide +kernel
theorem dX11_guides_50 : decode cX11_guides 50 = .ok (.ifCond .eq 31, 3) := by decide +kernel
theorem dX11_guides_53 : decode cX11_guides 53 = .ok (.iload_n 2, 1) := by decide +kernel
theorem dX11_guides_54 : decode cX11_guides 54 = .ok (.aload_n 0, 1) := by decide +kernel
theorem dX11_guides_55 : decode cX11_guides 55 = .ok (.getfield 24, 3) := by decide +kernel
theorem dX11_guides_58 : decode cX11_guides 58 = .ok (.iload 4, 2) := by decide +kernel
theorem dX11_guides_60 : decode cX11_guides 60 = .ok (.iaload, 1) := by decide +kernel
theorem dX11_guides_61 : decode cX11_guides 61 = .ok (.invokestatic 262, 3) := by decide +kernel
theorem dX11_guides_64 : decode cX11_guides 64 = .ok (.ifCond .ne 17, 3) := by decide +kernel
theorem dX11_guides_67 : decode cX11_guides 67 = .ok (.iload_n 2, 1) := by decide +kernel
theorem dX11_guides_68 : decode cX11_guides 68 = .ok (.aload_n 0, 1) := by decide +kernel
theorem dX11_guides_69 : decode cX11_guides 69 = .ok (.getfield 28, 3) := by decide +kernel
theorem dX11_guides_72 : decode cX11_guides 72 = .ok (.iload 4, 2) := by decide +kernel
theorem dX11_guides_74 : decode cX11_guides 74 = .ok (.iaload, 1) := by decide +kernel
theorem dX11_guides_75 : decode cX11_guides 75 = .ok (.invokestatic 262, 3) := by decide +kernel
theorem dX11_guides_78 : decode cX11_guides 78 = .ok (.ifCond .eq 7, 3) := by decide +kernel
theorem dX11_guides_81 : decode cX11_guides 81 = .ok (.iconst 1, 1) := by decide +kernel
theorem dX11_guides_82 : decode cX11_guides 82 = .ok (.goto 4, 3) := by decide +kernel
theorem dX11_guides_85 : decode cX11_guides 85 = .ok (.iconst 0, 1) := by decide +kernel
theorem dX11_guides_86 : decode cX11_guides 86 = .ok (.istore_n 3, 1) := by decide +kernel
theorem dX11_guides_87 : decode cX11_guides 87 = .ok (.iinc 4 1, 3) := by decide +kernel
theorem dX11_guides_90 : decode cX11_guides 90 = .ok (.goto (-65), 3) := by decide +kernel
theorem dX11_guides_93 : decode cX11_guides 93 = .ok (.iload_n 3, 1) := by decide +kernel
theorem dX11_guides_94 : decode cX11_guides 94 = .ok (.ifCond .eq 7, 3) := by decide +kernel
theorem dX11_guides_97 : decode cX11_guides 97 = .ok (.iload_n 2, 1) := by decide +kernel
theorem dX11_guides_98 : decode cX11_guides 98 = .ok (.goto 4, 3) := by decide +kernel
theorem dX11_guides_101 : decode cX11_guides 101 = .ok (.iload_n 1, 1) := by decide +kernel
theorem dX11_guides_102 : decode cX11_guides 102 = .ok (.istore_n 1, 1) := by decide +kernel
theorem dX11_guides_103 : decode cX11_guides 103 = .ok (.iinc 2 1, 3) := by decide +kernel
theorem dX11_guides_106 : decode cX11_guides 106 = .ok (.goto (-97), 3) := by decide +kernel
theorem dX11_guides_109 : decode cX11_guides 109 = .ok (.aload_n 0, 1) := by decide +kernel
theorem dX11_guides_110 : decode cX11_guides 110 = .ok (.iconst 0, 1) := by decide +kernel
theorem dX11_guides_111 : decode cX11_guides 111 = .ok (.putfield 15, 3) := by decide +kernel
theorem dX11_guides_114 : decode cX11_guides 114 = .ok (.aload_n 0, 1) := by decide +kernel
theorem dX11_guides_115 : decode cX11_guides 115 = .ok (.iload_n 1, 1) := by decide +kernel
theorem dX11_guides_116 : decode cX11_guides 116 = .ok (.i2l, 1) := by decide +kernel
theorem dX11_guides_117 : decode cX11_guides 117 = .ok (.invokevirtual 340, 3) := by decide +kernel
theorem dX11_guides_120 : decode cX11_guides 120 = .ok (.iload_n 1, 1) := by decide +kernel
theorem dX11_guides_121 : decode cX11_guides 121 = .ok (.invokestatic 355, 3) := by decide +kernel
theorem dX11_guides_124 : decode cX11_guides 124 = .ok (.ireturn, 1) := by decide +kernel
theorem dX11_most_0 : decode cX11_most 0 = .ok (.aload_n 0, 1) := by decide +kernel
theorem dX11_most_1 : decode cX11_most 1 = .ok (.iconst 0, 1) := by decide +kernel
theorem dX11_most_2 : decode cX11_most 2 = .ok (.putfield 3, 3) := by decide +kernel
theorem dX11_most_5 : decode cX11_most 5 = .ok (.iconst 0, 1) := by decide +kernel
theorem dX11_most_6 : decode cX11_most 6 = .ok (.istore_n 1, 1) := by decide +kernel
theorem dX11_most_7 : decode cX11_most 7 = .ok (.iconst 1, 1) := by decide +kernel
theorem dX11_most_8 : decode cX11_most 8 = .ok (.istore_n 2, 1) := by decide +kernel
theorem dX11_most_9 : decode cX11_most 9 = .ok (.iload_n 2, 1) := by decide +kernel
theorem dX11_most_10 : decode cX11_most 10 = .ok (.aload_n 0, 1) := by decide +kernel
theorem dX11_most_11 : decode cX11_most 11 = .ok (.getfield 31, 3) := by decide +kernel
theorem dX11_most_14 : decode cX11_most 14 = .ok (.bipush 36, 2) := by decide +kernel
theorem dX11_most_16 : decode cX11_most 16 = .ok (.iaload, 1) := by decide +kernel
theorem dX11_most_17 : decode cX11_most 17 = .ok (.if_icmp .gt 126, 3) := by decide +kernel
theorem dX11_most_20 : decode cX11_most 20 = .ok (.iload_n 2, 1) := by decide +kernel
theorem dX11_most_21 : decode cX11_most 21 = .ok (.aload_n 0, 1) := by decide +kernel
theorem dX11_most_22 : decode cX11_most 22 = .ok (.getfield 31, 3) := by decide +kernel
theorem dX11_most_25 : decode cX11_most 25 = .ok (.bipush 36, 2) := by decide +kernel
theorem dX11_most_27 : decode cX11_most 27 = .ok (.iaload, 1) := by decide +kernel
theorem dX11_most_28 : decode cX11_most 28 = .ok (.iconst (-1), 1) := by decide +kernel
theorem dX11_most_29 : decode cX11_most 29 = .ok (.ixor, 1) := by decide +kernel
theorem dX11_most_30 : decode cX11_most 30 = .ok (.iand, 1) := by decide +kernel
theorem dX11_most_31 : decode cX11_most 31 = .ok (.ifCond .ne 106, 3) := by decide +kernel
theorem dX11_most_34 : decode cX11_most 34 = .ok (.iload_n 2, 1) := by decide +kernel
theorem dX11_most_35 : decode cX11_most 35 = .ok (.invokestatic 355, 3) := by decide +kernel
theorem dX11_most_38 : decode cX11_most 38 = .ok (.iload_n 1, 1) := by decide +kernel
theorem dX11_most_39 : decode cX11_most 39 = .ok (.invokestatic 355, 3) := by decide +kernel
theorem dX11_most_42 : decode cX11_most 42 = .ok (.if_icmp .le 95, 3) := by decide +kernel
theorem dX11_most_45 : decode cX11_most 45 = .ok (.iconst 1, 1) := by decide +kernel
theorem dX11_most_46 : decode cX11_most 46 = .ok (.istore_n 3, 1) := by decide +kernel
theorem dX11_most_47 : decode cX11_most 47 = .ok (.iconst 0, 1) := by decide +kernel
theorem dX11_most_48 : decode cX11_most 48 = .ok (.istore 4, 2) := by decide +kernel
theorem dX11_most_50 : decode cX11_most 50 = .ok (.iconst 0, 1) := by decide +kernel
theorem dX11_most_51 : decode cX11_most 51 = .ok (.istore 5, 2) := by decide +kernel
theorem dX11_most_53 : decode cX11_most 53 = .ok (.iload 5, 2) := by decide +kernel
theorem dX11_most_55 : decode cX11_most 55 = .ok (.aload_n 0, 1) := by decide +kernel
theorem dX11_most_56 : decode cX11_most 56 = .ok (.getfield 128, 3) := by decide +kernel
theorem dX11_most_59 : decode cX11_most 59 = .ok (.if_icmp .ge 68, 3) := by decide +kernel
theorem dX11_most_62 : decode cX11_most 62 = .ok (.iload_n 2, 1) := by decide +kernel
theorem dX11_most_63 : decode cX11_most 63 = .ok (.iload 5, 2) := by decide +kernel
theorem dX11_most_65 : decode cX11_most 65 = .ok (.invokestatic 262, 3) := by decide +kernel
theorem dX11_most_68 : decode cX11_most 68 = .ok (.ifCond .eq 25, 3) := by decide +kernel
theorem dX11_most_71 : decode cX11_most 71 = .ok (.iconst 1, 1) := by decide +kernel
theorem dX11_most_72 : decode cX11_most 72 = .ok (.aload_n 0, 1) := by decide +kernel
theorem dX11_most_73 : decode cX11_most 73 = .ok (.getfield 24, 3) := by decide +kernel
theorem dX11_most_76 : decode cX11_most 76 = .ok (.iload 5, 2) := by decide +kernel
theorem dX11_most_78 : decode cX11_most 78 = .ok (.iaload, 1) := by decide +kernel
theorem dX11_most_79 : decode cX11_most 79 = .ok (.ishl, 1) := by decide +kernel
theorem dX11_most_80 : decode cX11_most 80 = .ok (.iconst 1, 1) := by decide +kernel
theorem dX11_most_81 : decode cX11_most 81 = .ok (.aload_n 0, 1) := by decide +kernel
theorem dX11_most_82 : decode cX11_most 82 = .ok (.getfield 28, 3) := by decide +kernel
theorem dX11_most_85 : decode cX11_most 85 = .ok (.iload 5, 2) := by decide +kernel
theorem dX11_most_87 : decode cX11_most 87 = .ok (.iaload, 1) := by decide +kernel
theorem dX11_most_88 : decode cX11_most 88 = .ok (.ishl, 1) := by decide +kernel
theorem dX11_most_89 : decode cX11_most 89 = .ok (.ior, 1) := by decide +kernel
theorem dX11_most_90 : decode cX11_most 90 = .ok (.goto 4, 3) := by decide +kernel
theorem dX11_most_93 : decode cX11_most 93 = .ok (.iconst 0, 1) := by decide +kernel
theorem dX11_most_94 : decode cX11_most 94 = .ok (.istore 6, 2) := by decide +kernel
theorem dX11_most_96 : decode cX11_most 96 = .ok (.iload_n 3, 1) := by decide +kernel
theorem dX11_most_97 : decode cX11_most 97 = .ok (.ifCond .eq 15, 3) := by decide +kernel
theorem dX11_most_100 : decode cX11_most 100 = .ok (.iload 4, 2) := by decide +kernel
theorem dX11_most_102 : decode cX11_most 102 = .ok (.iload 6, 2) := by decide +kernel
theorem dX11_most_104 : decode cX11_most 104 = .ok (.iand, 1) := by decide +kernel
theorem dX11_most_105 : decode cX11_most 105 = .ok (.ifCond .ne 7, 3) := by decide +kernel
theorem dX11_most_108 : decode cX11_most 108 = .ok (.iconst 1, 1) := by decide +kernel
theorem dX11_most_109 : decode cX11_most 109 = .ok (.goto 4, 3) := by decide +kernel
theorem dX11_most_112 : decode cX11_most 112 = .ok (.iconst 0, 1) := by decide +kernel
theorem dX11_most_113 : decode cX11_most 113 = .ok (.istore_n 3, 1) := by decide +kernel
theorem dX11_most_114 : decode cX11_most 114 = .ok (.iload 4, 2) := by decide +kernel
theorem dX11_most_116 : decode cX11_most 116 = .ok (.iload 6, 2) := by decide +kernel
theorem dX11_most_118 : decode cX11_most 118 = .ok (.ior, 1) := by decide +kernel
theorem dX11_most_119 : decode cX11_most 119 = .ok (.istore 4, 2) := by decide +kernel
theorem dX11_most_121 : decode cX11_most 121 = .ok (.iinc 5 1, 3) := by decide +kernel
theorem dX11_most_124 : decode cX11_most 124 = .ok (.goto (-71), 3) := by decide +kernel
theorem dX11_most_127 : decode cX11_most 127 = .ok (.iload_n 3, 1) := by decide +kernel
theorem dX11_most_128 : decode cX11_most 128 = .ok (.ifCond .eq 7, 3) := by decide +kernel
theorem dX11_most_131 : decode cX11_most 131 = .ok (.iload_n 2, 1) := by decide +kernel
theorem dX11_most_132 : decode cX11_most 132 = .ok (.goto 4, 3) := by decide +kernel
theorem dX11_most_135 : decode cX11_most 135 = .ok (.iload_n 1, 1) := by decide +kernel
theorem dX11_most_136 : decode cX11_most 136 = .ok (.istore_n 1, 1) := by decide +kernel
theorem dX11_most_137 : decode cX11_most 137 = .ok (.iinc 2 1, 3) := by decide +kernel
theorem dX11_most_140 : decode cX11_most 140 = .ok (.goto (-131), 3) := by decide +kernel
theorem dX11_most_143 : decode cX11_most 143 = .ok (.aload_n 0, 1) := by decide +kernel
theorem dX11_most_144 : decode cX11_most 144 = .ok (.iconst 0, 1) := by decide +kernel
theorem dX11_most_145 : decode cX11_most 145 = .ok (.putfield 15, 3) := by decide +kernel
theorem dX11_most_148 : decode cX11_most 148 = .ok (.aload_n 0, 1) := by decide +kernel
theorem dX11_most_149 : decode cX11_most 149 = .ok (.iload_n 1, 1) := by decide +kernel
theorem dX11_most_150 : decode cX11_most 150 = .ok (.i2l, 1) := by decide +kernel
theorem dX11_most_151 : decode cX11_most 151 = .ok (.invokevirtual 340, 3) := by decide +kernel
theorem dX11_most_154 : decode cX11_most 154 = .ok (.iload_n 1, 1) := by decide +kernel
theorem dX11_most_155 : decode cX11_most 155 = .ok (.invokestatic 355, 3) := by decide +kernel
theorem dX11_most_158 : decode cX11_most 158 = .ok (.ireturn, 1) := by decide +kernel
theorem dX11_told_0 : decode cX11_told 0 = .ok (.aload_n 0, 1) := by decide +kernel
theorem dX11_told_1 : decode cX11_told 1 = .ok (.iconst 0, 1) := by decide +kernel
theorem dX11_told_2 : decode cX11_told 2 = .ok (.putfield 3, 3) := by decide +kernel
theorem dX11_told_5 : decode cX11_told 5 = .ok (.iload_n 1, 1) := by decide +kernel
theorem dX11_told_6 : decode cX11_told 6 = .ok (.ifCond .ne 7, 3) := by decide +kernel
theorem dX11_told_9 : decode cX11_told 9 = .ok (.iconst 1, 1) := by decide +kernel
theorem dX11_told_10 : decode cX11_told 10 = .ok (.goto 4, 3) := by decide +kernel
theorem dX11_told_13 : decode cX11_told 13 = .ok (.iconst 0, 1) := by decide +kernel
theorem dX11_told_14 : decode cX11_told 14 = .ok (.invokestatic 155, 3) := by decide +kernel
theorem dX11_told_17 : decode cX11_told 17 = .ok (.istore_n 3, 1) := by decide +kernel
theorem dX11_told_18 : decode cX11_told 18 = .ok (.iload_n 1, 1) := by decide +kernel
theorem dX11_told_19 : decode cX11_told 19 = .ok (.iconst 1, 1) := by decide +kernel
theorem dX11_told_20 : decode cX11_told 20 = .ok (.if_icmp .ne 8, 3) := by decide +kernel
theorem dX11_told_23 : decode cX11_told 23 = .ok (.bipush 7, 2) := by decide +kernel
theorem dX11_told_25 : decode cX11_told 25 = .ok (.goto 14, 3) := by decide +kernel
theorem dX11_told_28 : decode cX11_told 28 = .ok (.iload_n 1, 1) := by decide +kernel
theorem dX11_told_29 : decode cX11_told 29 = .ok (.iconst 3, 1) := by decide +kernel
theorem dX11_told_30 : decode cX11_told 30 = .ok (.if_icmp .ne 7, 3) := by decide +kernel
theorem dX11_told_33 : decode cX11_told 33 = .ok (.iconst 1, 1) := by decide +kernel
theorem dX11_told_34 : decode cX11_told 34 = .ok (.goto 5, 3) := by decide +kernel
theorem dX11_told_37 : decode cX11_told 37 = .ok (.bipush 9, 2) := by decide +kernel
theorem dX11_told_39 : decode cX11_told 39 = .ok (.istore 4, 2) := by decide +kernel
theorem dX11_told_41 : decode cX11_told 41 = .ok (.iload_n 1, 1) := by decide +kernel
theorem dX11_told_42 : decode cX11_told 42 = .ok (.i2l, 1) := by decide +kernel
theorem dX11_told_43 : decode cX11_told 43 = .ok (.lconst 0, 1) := by decide +kernel
theorem dX11_told_44 : decode cX11_told 44 = .ok (.ldc2_w 406, 3) := by decide +kernel
theorem dX11_told_47 : decode cX11_told 47 = .ok (.invokestatic 131, 3) := by decide +kernel
theorem dX11_told_50 : decode cX11_told 50 = .ok (.ifCond .eq 25, 3) := by decide +kernel
theorem dX11_told_53 : decode cX11_told 53 = .ok (.iload_n 2, 1) := by decide +kernel
theorem dX11_told_54 : decode cX11_told 54 = .ok (.i2l, 1) := by decide +kernel
theorem dX11_told_55 : decode cX11_told 55 = .ok (.iload_n 3, 1) := by decide +kernel
theorem dX11_told_56 : decode cX11_told 56 = .ok (.i2l, 1) := by decide +kernel
theorem dX11_told_57 : decode cX11_told 57 = .ok (.iload 4, 2) := by decide +kernel
theorem dX11_told_59 : decode cX11_told 59 = .ok (.i2l, 1) := by decide +kernel
theorem dX11_told_60 : decode cX11_told 60 = .ok (.invokestatic 131, 3) := by decide +kernel
theorem dX11_told_63 : decode cX11_told 63 = .ok (.ifCond .eq 12, 3) := by decide +kernel
theorem dX11_told_66 : decode cX11_told 66 = .ok (.aload_n 0, 1) := by decide +kernel
theorem dX11_told_67 : decode cX11_told 67 = .ok (.getfield 408, 3) := by decide +kernel
theorem dX11_told_70 : decode cX11_told 70 = .ok (.bipush 12, 2) := by decide +kernel
theorem dX11_told_72 : decode cX11_told 72 = .ok (.if_icmp .ne 5, 3) := by decide +kernel
theorem dX11_told_75 : decode cX11_told 75 = .ok (.iconst (-1), 1) := by decide +kernel
theorem dX11_told_76 : decode cX11_told 76 = .ok (.ireturn, 1) := by decide +kernel
theorem dX11_told_77 : decode cX11_told 77 = .ok (.aload_n 0, 1) := by decide +kernel
theorem dX11_told_78 : decode cX11_told 78 = .ok (.getfield 92, 3) := by decide +kernel
theorem dX11_told_81 : decode cX11_told 81 = .ok (.aload_n 0, 1) := by decide +kernel
theorem dX11_told_82 : decode cX11_told 82 = .ok (.getfield 408, 3) := by decide +kernel
theorem dX11_told_85 : decode cX11_told 85 = .ok (.iload_n 1, 1) := by decide +kernel
theorem dX11_told_86 : decode cX11_told 86 = .ok (.iastore, 1) := by decide +kernel
theorem dX11_told_87 : decode cX11_told 87 = .ok (.aload_n 0, 1) := by decide +kernel
theorem dX11_told_88 : decode cX11_told 88 = .ok (.getfield 95, 3) := by decide +kernel
theorem dX11_told_91 : decode cX11_told 91 = .ok (.aload_n 0, 1) := by decide +kernel
theorem dX11_told_92 : decode cX11_told 92 = .ok (.getfield 408, 3) := by decide +kernel
theorem dX11_told_95 : decode cX11_told 95 = .ok (.iload_n 2, 1) := by decide +kernel
theorem dX11_told_96 : decode cX11_told 96 = .ok (.iastore, 1) := by decide +kernel
theorem dX11_told_97 : decode cX11_told 97 = .ok (.aload_n 0, 1) := by decide +kernel
theorem dX11_told_98 : decode cX11_told 98 = .ok (.dup, 1) := by decide +kernel
theorem dX11_told_99 : decode cX11_told 99 = .ok (.getfield 408, 3) := by decide +kernel
theorem dX11_told_102 : decode cX11_told 102 = .ok (.iconst 1, 1) := by decide +kernel
theorem dX11_told_103 : decode cX11_told 103 = .ok (.iadd, 1) := by decide +kernel
theorem dX11_told_104 : decode cX11_told 104 = .ok (.putfield 408, 3) := by decide +kernel
theorem dX11_told_107 : decode cX11_told 107 = .ok (.aload_n 0, 1) := by decide +kernel
theorem dX11_told_108 : decode cX11_told 108 = .ok (.getfield 408, 3) := by decide +kernel
theorem dX11_told_111 : decode cX11_told 111 = .ok (.ireturn, 1) := by decide +kernel
theorem dX11_forget_0 : decode cX11_forget 0 = .ok (.aload_n 0, 1) := by decide +kernel
theorem dX11_forget_1 : decode cX11_forget 1 = .ok (.iconst 0, 1) := by decide +kernel
theorem dX11_forget_2 : decode cX11_forget 2 = .ok (.putfield 3, 3) := by decide +kernel
theorem dX11_forget_5 : decode cX11_forget 5 = .ok (.aload_n 0, 1) := by decide +kernel
theorem dX11_forget_6 : decode cX11_forget 6 = .ok (.getfield 408, 3) := by decide +kernel
theorem dX11_forget_9 : decode cX11_forget 9 = .ok (.istore_n 1, 1) := by decide +kernel
theorem dX11_forget_10 : decode cX11_forget 10 = .ok (.aload_n 0, 1) := by decide +kernel
theorem dX11_forget_11 : decode cX11_forget 11 = .ok (.iconst 0, 1) := by decide +kernel
theorem dX11_forget_12 : decode cX11_forget 12 = .ok (.putfield 408, 3) := by decide +kernel
theorem dX11_forget_15 : decode cX11_forget 15 = .ok (.iload_n 1, 1) := by decide +kernel
theorem dX11_forget_16 : decode cX11_forget 16 = .ok (.ireturn, 1) := by decide +kernel
theorem dX11_isSo_0 : decode cX11_isSo 0 = .ok (.iload_n 2, 1) := by decide +kernel
theorem dX11_isSo_1 : decode cX11_isSo 1 = .ok (.tableswitch 97 0 3 #[31, 47, 54, 73], 31) := by decide +kernel
theorem dX11_isSo_32 : decode cX11_isSo 32 = .ok (.aload_n 0, 1) := by decide +kernel
theorem dX11_isSo_33 : decode cX11_isSo 33 = .ok (.getfield 31, 3) := by decide +kernel
theorem dX11_isSo_36 : decode cX11_isSo 36 = .ok (.iload_n 1, 1) := by decide +kernel
theorem dX11_isSo_37 : decode cX11_isSo 37 = .ok (.iaload, 1) := by decide +kernel
theorem dX11_isSo_38 : decode cX11_isSo 38 = .ok (.iload_n 3, 1) := by decide +kernel
theorem dX11_isSo_39 : decode cX11_isSo 39 = .ok (.if_icmp .lt 7, 3) := by decide +kernel
theorem dX11_isSo_42 : decode cX11_isSo 42 = .ok (.iconst 1, 1) := by decide +kernel
theorem dX11_isSo_43 : decode cX11_isSo 43 = .ok (.goto 4, 3) := by decide +kernel
theorem dX11_isSo_46 : decode cX11_isSo 46 = .ok (.iconst 0, 1) := by decide +kernel
theorem dX11_isSo_47 : decode cX11_isSo 47 = .ok (.ireturn, 1) := by decide +kernel
theorem dX11_isSo_48 : decode cX11_isSo 48 = .ok (.aload_n 0, 1) := by decide +kernel
theorem dX11_isSo_49 : decode cX11_isSo 49 = .ok (.iload_n 1, 1) := by decide +kernel
theorem dX11_isSo_50 : decode cX11_isSo 50 = .ok (.iload_n 3, 1) := by decide +kernel
theorem dX11_isSo_51 : decode cX11_isSo 51 = .ok (.invokevirtual 266, 3) := by decide +kernel
theorem dX11_isSo_54 : decode cX11_isSo 54 = .ok (.ireturn, 1) := by decide +kernel
theorem dX11_isSo_55 : decode cX11_isSo 55 = .ok (.aload_n 0, 1) := by decide +kernel
theorem dX11_isSo_56 : decode cX11_isSo 56 = .ok (.getfield 31, 3) := by decide +kernel
theorem dX11_isSo_59 : decode cX11_isSo 59 = .ok (.bipush 12, 2) := by decide +kernel
theorem dX11_isSo_61 : decode cX11_isSo 61 = .ok (.iload_n 1, 1) := by decide +kernel
theorem dX11_isSo_62 : decode cX11_isSo 62 = .ok (.iadd, 1) := by decide +kernel
theorem dX11_isSo_63 : decode cX11_isSo 63 = .ok (.iaload, 1) := by decide +kernel
theorem dX11_isSo_64 : decode cX11_isSo 64 = .ok (.iload_n 3, 1) := by decide +kernel
theorem dX11_isSo_65 : decode cX11_isSo 65 = .ok (.if_icmp .ne 7, 3) := by decide +kernel
theorem dX11_isSo_68 : decode cX11_isSo 68 = .ok (.iconst 1, 1) := by decide +kernel
theorem dX11_isSo_69 : decode cX11_isSo 69 = .ok (.goto 4, 3) := by decide +kernel
theorem dX11_isSo_72 : decode cX11_isSo 72 = .ok (.iconst 0, 1) := by decide +kernel
theorem dX11_isSo_73 : decode cX11_isSo 73 = .ok (.ireturn, 1) := by decide +kernel
theorem dX11_isSo_74 : decode cX11_isSo 74 = .ok (.aload_n 0, 1) := by decide +kernel
theorem dX11_isSo_75 : decode cX11_isSo 75 = .ok (.getfield 31, 3) := by decide +kernel
theorem dX11_isSo_78 : decode cX11_isSo 78 = .ok (.bipush 36, 2) := by decide +kernel
theorem dX11_isSo_80 : decode cX11_isSo 80 = .ok (.iaload, 1) := by decide +kernel
theorem dX11_isSo_81 : decode cX11_isSo 81 = .ok (.iload_n 1, 1) := by decide +kernel
theorem dX11_isSo_82 : decode cX11_isSo 82 = .ok (.invokestatic 262, 3) := by decide +kernel
theorem dX11_isSo_85 : decode cX11_isSo 85 = .ok (.invokestatic 155, 3) := by decide +kernel
theorem dX11_isSo_88 : decode cX11_isSo 88 = .ok (.iload_n 3, 1) := by decide +kernel
theorem dX11_isSo_89 : decode cX11_isSo 89 = .ok (.if_icmp .ne 7, 3) := by decide +kernel
theorem dX11_isSo_92 : decode cX11_isSo 92 = .ok (.iconst 1, 1) := by decide +kernel
theorem dX11_isSo_93 : decode cX11_isSo 93 = .ok (.goto 4, 3) := by decide +kernel
theorem dX11_isSo_96 : decode cX11_isSo 96 = .ok (.iconst 0, 1) := by decide +kernel
theorem dX11_isSo_97 : decode cX11_isSo 97 = .ok (.ireturn, 1) := by decide +kernel
theorem dX11_isSo_98 : decode cX11_isSo 98 = .ok (.aload_n 0, 1) := by decide +kernel
theorem dX11_isSo_99 : decode cX11_isSo 99 = .ok (.getfield 31, 3) := by decide +kernel
theorem dX11_isSo_102 : decode cX11_isSo 102 = .ok (.bipush 24, 2) := by decide +kernel
theorem dX11_isSo_104 : decode cX11_isSo 104 = .ok (.iload_n 1, 1) := by decide +kernel
theorem dX11_isSo_105 : decode cX11_isSo 105 = .ok (.iadd, 1) := by decide +kernel
theorem dX11_isSo_106 : decode cX11_isSo 106 = .ok (.iaload, 1) := by decide +kernel
theorem dX11_isSo_107 : decode cX11_isSo 107 = .ok (.iload_n 3, 1) := by decide +kernel
theorem dX11_isSo_108 : decode cX11_isSo 108 = .ok (.if_icmp .gt 7, 3) := by decide +kernel
theorem dX11_isSo_111 : decode cX11_isSo 111 = .ok (.iconst 1, 1) := by decide +kernel
theorem dX11_isSo_112 : decode cX11_isSo 112 = .ok (.goto 4, 3) := by decide +kernel
theorem dX11_isSo_115 : decode cX11_isSo 115 = .ok (.iconst 0, 1) := by decide +kernel
theorem dX11_isSo_116 : decode cX11_isSo 116 = .ok (.ireturn, 1) := by decide +kernel
theorem dX11_fitting_0 : decode cX11_fitting 0 = .ok (.iconst 0, 1) := by decide +kernel
theorem dX11_fitting_1 : decode cX11_fitting 1 = .ok (.istore_n 1, 1) := by decide +kernel
theorem dX11_fitting_2 : decode cX11_fitting 2 = .ok (.iconst 0, 1) := by decide +kernel
theorem dX11_fitting_3 : decode cX11_fitting 3 = .ok (.istore_n 2, 1) := by decide +kernel
theorem dX11_fitting_4 : decode cX11_fitting 4 = .ok (.iload_n 2, 1) := by decide +kernel
theorem dX11_fitting_5 : decode cX11_fitting 5 = .ok (.aload_n 0, 1) := by decide +kernel
theorem dX11_fitting_6 : decode cX11_fitting 6 = .ok (.getfield 128, 3) := by decide +kernel
theorem dX11_fitting_9 : decode cX11_fitting 9 = .ok (.if_icmp .ge 75, 3) := by decide +kernel
theorem dX11_fitting_12 : decode cX11_fitting 12 = .ok (.iconst 1, 1) := by decide +kernel
theorem dX11_fitting_13 : decode cX11_fitting 13 = .ok (.istore_n 3, 1) := by decide +kernel
theorem dX11_fitting_14 : decode cX11_fitting 14 = .ok (.iconst 0, 1) := by decide +kernel
theorem dX11_fitting_15 : decode cX11_fitting 15 = .ok (.istore 4, 2) := by decide +kernel
theorem dX11_fitting_17 : decode cX11_fitting 17 = .ok (.iload 4, 2) := by decide +kernel
theorem dX11_fitting_19 : decode cX11_fitting 19 = .ok (.aload_n 0, 1) := by decide +kernel
theorem dX11_fitting_20 : decode cX11_fitting 20 = .ok (.getfield 408, 3) := by decide +kernel
theorem dX11_fitting_23 : decode cX11_fitting 23 = .ok (.if_icmp .ge 41, 3) := by decide +kernel
theorem dX11_fitting_26 : decode cX11_fitting 26 = .ok (.iload_n 3, 1) := by decide +kernel
theorem dX11_fitting_27 : decode cX11_fitting 27 = .ok (.ifCond .eq 29, 3) := by decide +kernel
theorem dX11_fitting_30 : decode cX11_fitting 30 = .ok (.aload_n 0, 1) := by decide +kernel
theorem dX11_fitting_31 : decode cX11_fitting 31 = .ok (.iload_n 2, 1) := by decide +kernel
theorem dX11_fitting_32 : decode cX11_fitting 32 = .ok (.aload_n 0, 1) := by decide +kernel
theorem dX11_fitting_33 : decode cX11_fitting 33 = .ok (.getfield 92, 3) := by decide +kernel
theorem dX11_fitting_36 : decode cX11_fitting 36 = .ok (.iload 4, 2) := by decide +kernel
theorem dX11_fitting_38 : decode cX11_fitting 38 = .ok (.iaload, 1) := by decide +kernel
theorem dX11_fitting_39 : decode cX11_fitting 39 = .ok (.aload_n 0, 1) := by decide +kernel
theorem dX11_fitting_40 : decode cX11_fitting 40 = .ok (.getfield 95, 3) := by decide +kernel
theorem dX11_fitting_43 : decode cX11_fitting 43 = .ok (.iload 4, 2) := by decide +kernel
theorem dX11_fitting_45 : decode cX11_fitting 45 = .ok (.iaload, 1) := by decide +kernel
theorem dX11_fitting_46 : decode cX11_fitting 46 = .ok (.invokevirtual 411, 3) := by decide +kernel
theorem dX11_fitting_49 : decode cX11_fitting 49 = .ok (.ifCond .eq 7, 3) := by decide +kernel
theorem dX11_fitting_52 : decode cX11_fitting 52 = .ok (.iconst 1, 1) := by decide +kernel
theorem dX11_fitting_53 : decode cX11_fitting 53 = .ok (.goto 4, 3) := by decide +kernel
theorem dX11_fitting_56 : decode cX11_fitting 56 = .ok (.iconst 0, 1) := by decide +kernel
theorem dX11_fitting_57 : decode cX11_fitting 57 = .ok (.istore_n 3, 1) := by decide +kernel
theorem dX11_fitting_58 : decode cX11_fitting 58 = .ok (.iinc 4 1, 3) := by decide +kernel
theorem dX11_fitting_61 : decode cX11_fitting 61 = .ok (.goto (-44), 3) := by decide +kernel
theorem dX11_fitting_64 : decode cX11_fitting 64 = .ok (.iload_n 1, 1) := by decide +kernel
theorem dX11_fitting_65 : decode cX11_fitting 65 = .ok (.iload_n 3, 1) := by decide +kernel
theorem dX11_fitting_66 : decode cX11_fitting 66 = .ok (.ifCond .eq 9, 3) := by decide +kernel
theorem dX11_fitting_69 : decode cX11_fitting 69 = .ok (.iconst 1, 1) := by decide +kernel
theorem dX11_fitting_70 : decode cX11_fitting 70 = .ok (.iload_n 2, 1) := by decide +kernel
theorem dX11_fitting_71 : decode cX11_fitting 71 = .ok (.ishl, 1) := by decide +kernel
theorem dX11_fitting_72 : decode cX11_fitting 72 = .ok (.goto 4, 3) := by decide +kernel
theorem dX11_fitting_75 : decode cX11_fitting 75 = .ok (.iconst 0, 1) := by decide +kernel
theorem dX11_fitting_76 : decode cX11_fitting 76 = .ok (.ior, 1) := by decide +kernel
theorem dX11_fitting_77 : decode cX11_fitting 77 = .ok (.istore_n 1, 1) := by decide +kernel
theorem dX11_fitting_78 : decode cX11_fitting 78 = .ok (.iinc 2 1, 3) := by decide +kernel
theorem dX11_fitting_81 : decode cX11_fitting 81 = .ok (.goto (-77), 3) := by decide +kernel
theorem dX11_fitting_84 : decode cX11_fitting 84 = .ok (.iload_n 1, 1) := by decide +kernel
theorem dX11_fitting_85 : decode cX11_fitting 85 = .ok (.ireturn, 1) := by decide +kernel
theorem dX11_fits_0 : decode cX11_fits 0 = .ok (.aload_n 0, 1) := by decide +kernel
theorem dX11_fits_1 : decode cX11_fits 1 = .ok (.iconst 0, 1) := by decide +kernel
theorem dX11_fits_2 : decode cX11_fits 2 = .ok (.putfield 3, 3) := by decide +kernel
theorem dX11_fits_5 : decode cX11_fits 5 = .ok (.aload_n 0, 1) := by decide +kernel
theorem dX11_fits_6 : decode cX11_fits 6 = .ok (.invokevirtual 415, 3) := by decide +kernel
theorem dX11_fits_9 : decode cX11_fits 9 = .ok (.istore_n 1, 1) := by decide +kernel
theorem dX11_fits_10 : decode cX11_fits 10 = .ok (.aload_n 0, 1) := by decide +kernel
theorem dX11_fits_11 : decode cX11_fits 11 = .ok (.iconst 0, 1) := by decide +kernel
theorem dX11_fits_12 : decode cX11_fits 12 = .ok (.putfield 15, 3) := by decide +kernel
theorem dX11_fits_15 : decode cX11_fits 15 = .ok (.aload_n 0, 1) := by decide +kernel
theorem dX11_fits_16 : decode cX11_fits 16 = .ok (.iload_n 1, 1) := by decide +kernel
theorem dX11_fits_17 : decode cX11_fits 17 = .ok (.invokestatic 355, 3) := by decide +kernel
theorem dX11_fits_20 : decode cX11_fits 20 = .ok (.i2l, 1) := by decide +kernel
theorem dX11_fits_21 : decode cX11_fits 21 = .ok (.invokevirtual 340, 3) := by decide +kernel
theorem dX11_fits_24 : decode cX11_fits 24 = .ok (.iload_n 1, 1) := by decide +kernel
theorem dX11_fits_25 : decode cX11_fits 25 = .ok (.ireturn, 1) := by decide +kernel
theorem dX11_next_0 : decode cX11_next 0 = .ok (.aload_n 0, 1) := by decide +kernel
theorem dX11_next_1 : decode cX11_next 1 = .ok (.iconst 0, 1) := by decide +kernel
theorem dX11_next_2 : decode cX11_next 2 = .ok (.putfield 3, 3) := by decide +kernel
theorem dX11_next_5 : decode cX11_next 5 = .ok (.aload_n 0, 1) := by decide +kernel
theorem dX11_next_6 : decode cX11_next 6 = .ok (.invokevirtual 415, 3) := by decide +kernel
theorem dX11_next_9 : decode cX11_next 9 = .ok (.istore_n 1, 1) := by decide +kernel
theorem dX11_next_10 : decode cX11_next 10 = .ok (.iload_n 1, 1) := by decide +kernel
theorem dX11_next_11 : decode cX11_next 11 = .ok (.ifCond .ne 6, 3) := by decide +kernel
theorem dX11_next_14 : decode cX11_next 14 = .ok (.bipush (-2), 2) := by decide +kernel
theorem dX11_next_16 : decode cX11_next 16 = .ok (.ireturn, 1) := by decide +kernel
theorem dX11_next_17 : decode cX11_next 17 = .ok (.iconst (-1), 1) := by decide +kernel
theorem dX11_next_18 : decode cX11_next 18 = .ok (.istore_n 2, 1) := by decide +kernel
theorem dX11_next_19 : decode cX11_next 19 = .ok (.ldc_w 290, 3) := by decide +kernel
theorem dX11_next_22 : decode cX11_next 22 = .ok (.istore_n 3, 1) := by decide +kernel
theorem dX11_next_23 : decode cX11_next 23 = .ok (.iconst 0, 1) := by decide +kernel
theorem dX11_next_24 : decode cX11_next 24 = .ok (.istore 4, 2) := by decide +kernel
theorem dX11_next_26 : decode cX11_next 26 = .ok (.iload 4, 2) := by decide +kernel
theorem dX11_next_28 : decode cX11_next 28 = .ok (.bipush 8, 2) := by decide +kernel
theorem dX11_next_30 : decode cX11_next 30 = .ok (.if_icmp .ge 97, 3) := by decide +kernel
theorem dX11_next_33 : decode cX11_next 33 = .ok (.iconst 0, 1) := by decide +kernel
theorem dX11_next_34 : decode cX11_next 34 = .ok (.istore 5, 2) := by decide +kernel
theorem dX11_next_36 : decode cX11_next 36 = .ok (.iconst 0, 1) := by decide +kernel
theorem dX11_next_37 : decode cX11_next 37 = .ok (.istore 6, 2) := by decide +kernel
theorem dX11_next_39 : decode cX11_next 39 = .ok (.iload 6, 2) := by decide +kernel
theorem dX11_next_41 : decode cX11_next 41 = .ok (.aload_n 0, 1) := by decide +kernel
theorem dX11_next_42 : decode cX11_next 42 = .ok (.getfield 128, 3) := by decide +kernel
theorem dX11_next_45 : decode cX11_next 45 = .ok (.if_icmp .ge 42, 3) := by decide +kernel
theorem dX11_next_48 : decode cX11_next 48 = .ok (.iload 5, 2) := by decide +kernel
theorem dX11_next_50 : decode cX11_next 50 = .ok (.iload_n 1, 1) := by decide +kernel
theorem dX11_next_51 : decode cX11_next 51 = .ok (.iload 6, 2) := by decide +kernel
theorem dX11_next_53 : decode cX11_next 53 = .ok (.invokestatic 262, 3) := by decide +kernel
theorem dX11_next_56 : decode cX11_next 56 = .ok (.ifCond .eq 18, 3) := by decide +kernel
theorem dX11_next_59 : decode cX11_next 59 = .ok (.aload_n 0, 1) := by decide +kernel
theorem dX11_next_60 : decode cX11_next 60 = .ok (.iload 6, 2) := by decide +kernel
theorem dX11_next_62 : decode cX11_next 62 = .ok (.iload 4, 2) := by decide +kernel
theorem dX11_next_64 : decode cX11_next 64 = .ok (.invokevirtual 266, 3) := by decide +kernel
theorem dX11_next_67 : decode cX11_next 67 = .ok (.ifCond .eq 7, 3) := by decide +kernel
theorem dX11_next_70 : decode cX11_next 70 = .ok (.iconst 1, 1) := by decide +kernel
theorem dX11_next_71 : decode cX11_next 71 = .ok (.goto 4, 3) := by decide +kernel
theorem dX11_next_74 : decode cX11_next 74 = .ok (.iconst 0, 1) := by decide +kernel
theorem dX11_next_75 : decode cX11_next 75 = .ok (.invokestatic 155, 3) := by decide +kernel
theorem dX11_next_78 : decode cX11_next 78 = .ok (.iadd, 1) := by decide +kernel
theorem dX11_next_79 : decode cX11_next 79 = .ok (.istore 5, 2) := by decide +kernel
theorem dX11_next_81 : decode cX11_next 81 = .ok (.iinc 6 1, 3) := by decide +kernel
theorem dX11_next_84 : decode cX11_next 84 = .ok (.goto (-45), 3) := by decide +kernel
theorem dX11_next_87 : decode cX11_next 87 = .ok (.iload 5, 2) := by decide +kernel
theorem dX11_next_89 : decode cX11_next 89 = .ok (.iload_n 1, 1) := by decide +kernel
theorem dX11_next_90 : decode cX11_next 90 = .ok (.invokestatic 355, 3) := by decide +kernel
theorem dX11_next_93 : decode cX11_next 93 = .ok (.iload 5, 2) := by decide +kernel
theorem dX11_next_95 : decode cX11_next 95 = .ok (.isub, 1) := by decide +kernel
theorem dX11_next_96 : decode cX11_next 96 = .ok (.invokestatic 297, 3) := by decide +kernel
theorem dX11_next_99 : decode cX11_next 99 = .ok (.istore 6, 2) := by decide +kernel
theorem dX11_next_101 : decode cX11_next 101 = .ok (.iload 6, 2) := by decide +kernel
theorem dX11_next_103 : decode cX11_next 103 = .ok (.iload_n 3, 1) := by decide +kernel
theorem dX11_next_104 : decode cX11_next 104 = .ok (.if_icmp .ge 8, 3) := by decide +kernel
theorem dX11_next_107 : decode cX11_next 107 = .ok (.iload 4, 2) := by decide +kernel
theorem dX11_next_109 : decode cX11_next 109 = .ok (.goto 4, 3) := by decide +kernel
theorem dX11_next_112 : decode cX11_next 112 = .ok (.iload_n 2, 1) := by decide +kernel
theorem dX11_next_113 : decode cX11_next 113 = .ok (.istore_n 2, 1) := by decide +kernel
theorem dX11_next_114 : decode cX11_next 114 = .ok (.iload_n 3, 1) := by decide +kernel
theorem dX11_next_115 : decode cX11_next 115 = .ok (.iload 6, 2) := by decide +kernel
theorem dX11_next_117 : decode cX11_next 117 = .ok (.invokestatic 146, 3) := by decide +kernel
theorem dX11_next_120 : decode cX11_next 120 = .ok (.istore_n 3, 1) := by decide +kernel
theorem dX11_next_121 : decode cX11_next 121 = .ok (.iinc 4 1, 3) := by decide +kernel
theorem dX11_next_124 : decode cX11_next 124 = .ok (.goto (-98), 3) := by decide +kernel
theorem dX11_next_127 : decode cX11_next 127 = .ok (.aload_n 0, 1) := by decide +kernel
theorem dX11_next_128 : decode cX11_next 128 = .ok (.iconst 0, 1) := by decide +kernel
theorem dX11_next_129 : decode cX11_next 129 = .ok (.putfield 15, 3) := by decide +kernel
theorem dX11_next_132 : decode cX11_next 132 = .ok (.aload_n 0, 1) := by decide +kernel
theorem dX11_next_133 : decode cX11_next 133 = .ok (.iload_n 3, 1) := by decide +kernel
theorem dX11_next_134 : decode cX11_next 134 = .ok (.i2l, 1) := by decide +kernel
theorem dX11_next_135 : decode cX11_next 135 = .ok (.invokevirtual 340, 3) := by decide +kernel
theorem dX11_next_138 : decode cX11_next 138 = .ok (.iload_n 2, 1) := by decide +kernel
theorem dX11_next_139 : decode cX11_next 139 = .ok (.ireturn, 1) := by decide +kernel
theorem dX11_heard_0 : decode cX11_heard 0 = .ok (.aload_n 0, 1) := by decide +kernel
theorem dX11_heard_1 : decode cX11_heard 1 = .ok (.iconst 0, 1) := by decide +kernel
theorem dX11_heard_2 : decode cX11_heard 2 = .ok (.putfield 3, 3) := by decide +kernel
theorem dX11_heard_5 : decode cX11_heard 5 = .ok (.iload_n 1, 1) := by decide +kernel
theorem dX11_heard_6 : decode cX11_heard 6 = .ok (.i2l, 1) := by decide +kernel
theorem dX11_heard_7 : decode cX11_heard 7 = .ok (.lconst 0, 1) := by decide +kernel
theorem dX11_heard_8 : decode cX11_heard 8 = .ok (.ldc2_w 135, 3) := by decide +kernel
theorem dX11_heard_11 : decode cX11_heard 11 = .ok (.invokestatic 131, 3) := by decide +kernel
theorem dX11_heard_14 : decode cX11_heard 14 = .ok (.ifCond .eq 36, 3) := by decide +kernel
theorem dX11_heard_17 : decode cX11_heard 17 = .ok (.iload_n 2, 1) := by decide +kernel
theorem dX11_heard_18 : decode cX11_heard 18 = .ok (.i2l, 1) := by decide +kernel
theorem dX11_heard_19 : decode cX11_heard 19 = .ok (.lconst 0, 1) := by decide +kernel
theorem dX11_heard_20 : decode cX11_heard 20 = .ok (.ldc2_w 360, 3) := by decide +kernel
theorem dX11_heard_23 : decode cX11_heard 23 = .ok (.invokestatic 131, 3) := by decide +kernel
theorem dX11_heard_26 : decode cX11_heard 26 = .ok (.ifCond .eq 24, 3) := by decide +kernel
theorem dX11_heard_29 : decode cX11_heard 29 = .ok (.iload_n 3, 1) := by decide +kernel
theorem dX11_heard_30 : decode cX11_heard 30 = .ok (.i2l, 1) := by decide +kernel
theorem dX11_heard_31 : decode cX11_heard 31 = .ok (.lconst 0, 1) := by decide +kernel
theorem dX11_heard_32 : decode cX11_heard 32 = .ok (.ldc2_w 135, 3) := by decide +kernel
theorem dX11_heard_35 : decode cX11_heard 35 = .ok (.invokestatic 131, 3) := by decide +kernel
theorem dX11_heard_38 : decode cX11_heard 38 = .ok (.ifCond .eq 12, 3) := by decide +kernel
theorem dX11_heard_41 : decode cX11_heard 41 = .ok (.aload_n 0, 1) := by decide +kernel
theorem dX11_heard_42 : decode cX11_heard 42 = .ok (.getfield 418, 3) := by decide +kernel
theorem dX11_heard_45 : decode cX11_heard 45 = .ok (.bipush 10, 2) := by decide +kernel
theorem dX11_heard_47 : decode cX11_heard 47 = .ok (.if_icmp .ne 5, 3) := by decide +kernel
theorem dX11_heard_50 : decode cX11_heard 50 = .ok (.iconst (-1), 1) := by decide +kernel
theorem dX11_heard_51 : decode cX11_heard 51 = .ok (.ireturn, 1) := by decide +kernel
theorem dX11_heard_52 : decode cX11_heard 52 = .ok (.aload_n 0, 1) := by decide +kernel
theorem dX11_heard_53 : decode cX11_heard 53 = .ok (.getfield 98, 3) := by decide +kernel
theorem dX11_heard_56 : decode cX11_heard 56 = .ok (.aload_n 0, 1) := by decide +kernel
theorem dX11_heard_57 : decode cX11_heard 57 = .ok (.getfield 418, 3) := by decide +kernel
theorem dX11_heard_60 : decode cX11_heard 60 = .ok (.iload_n 1, 1) := by decide +kernel
theorem dX11_heard_61 : decode cX11_heard 61 = .ok (.iastore, 1) := by decide +kernel
theorem dX11_heard_62 : decode cX11_heard 62 = .ok (.aload_n 0, 1) := by decide +kernel
theorem dX11_heard_63 : decode cX11_heard 63 = .ok (.getfield 101, 3) := by decide +kernel
theorem dX11_heard_66 : decode cX11_heard 66 = .ok (.aload_n 0, 1) := by decide +kernel
theorem dX11_heard_67 : decode cX11_heard 67 = .ok (.getfield 418, 3) := by decide +kernel
theorem dX11_heard_70 : decode cX11_heard 70 = .ok (.iload_n 2, 1) := by decide +kernel
theorem dX11_heard_71 : decode cX11_heard 71 = .ok (.iastore, 1) := by decide +kernel
theorem dX11_heard_72 : decode cX11_heard 72 = .ok (.aload_n 0, 1) := by decide +kernel
theorem dX11_heard_73 : decode cX11_heard 73 = .ok (.getfield 104, 3) := by decide +kernel
theorem dX11_heard_76 : decode cX11_heard 76 = .ok (.aload_n 0, 1) := by decide +kernel
theorem dX11_heard_77 : decode cX11_heard 77 = .ok (.getfield 418, 3) := by decide +kernel
theorem dX11_heard_80 : decode cX11_heard 80 = .ok (.iload_n 3, 1) := by decide +kernel
theorem dX11_heard_81 : decode cX11_heard 81 = .ok (.iastore, 1) := by decide +kernel
theorem dX11_heard_82 : decode cX11_heard 82 = .ok (.aload_n 0, 1) := by decide +kernel
theorem dX11_heard_83 : decode cX11_heard 83 = .ok (.dup, 1) := by decide +kernel
theorem dX11_heard_84 : decode cX11_heard 84 = .ok (.getfield 418, 3) := by decide +kernel
theorem dX11_heard_87 : decode cX11_heard 87 = .ok (.iconst 1, 1) := by decide +kernel
theorem dX11_heard_88 : decode cX11_heard 88 = .ok (.iadd, 1) := by decide +kernel
theorem dX11_heard_89 : decode cX11_heard 89 = .ok (.putfield 418, 3) := by decide +kernel
theorem dX11_heard_92 : decode cX11_heard 92 = .ok (.aload_n 0, 1) := by decide +kernel
theorem dX11_heard_93 : decode cX11_heard 93 = .ok (.getfield 418, 3) := by decide +kernel
theorem dX11_heard_96 : decode cX11_heard 96 = .ok (.ireturn, 1) := by decide +kernel
theorem dX11_denied_0 : decode cX11_denied 0 = .ok (.aload_n 0, 1) := by decide +kernel
theorem dX11_denied_1 : decode cX11_denied 1 = .ok (.iconst 0, 1) := by decide +kernel
theorem dX11_denied_2 : decode cX11_denied 2 = .ok (.putfield 3, 3) := by decide +kernel
theorem dX11_denied_5 : decode cX11_denied 5 = .ok (.aload_n 0, 1) := by decide +kernel
theorem dX11_denied_6 : decode cX11_denied 6 = .ok (.getfield 418, 3) := by decide +kernel
theorem dX11_denied_9 : decode cX11_denied 9 = .ok (.istore_n 1, 1) := by decide +kernel
theorem dX11_denied_10 : decode cX11_denied 10 = .ok (.aload_n 0, 1) := by decide +kernel
theorem dX11_denied_11 : decode cX11_denied 11 = .ok (.iconst 0, 1) := by decide +kernel
theorem dX11_denied_12 : decode cX11_denied 12 = .ok (.putfield 418, 3) := by decide +kernel
theorem dX11_denied_15 : decode cX11_denied 15 = .ok (.iload_n 1, 1) := by decide +kernel
theorem dX11_denied_16 : decode cX11_denied 16 = .ok (.ireturn, 1) := by decide +kernel
theorem dX11_lawOf_0 : decode cX11_lawOf 0 = .ok (.iload_n 0, 1) := by decide +kernel
theorem dX11_lawOf_1 : decode cX11_lawOf 1 = .ok (.bipush 8, 2) := by decide +kernel
theorem dX11_lawOf_3 : decode cX11_lawOf 3 = .ok (.idiv, 1) := by decide +kernel
theorem dX11_lawOf_4 : decode cX11_lawOf 4 = .ok (.iload_n 1, 1) := by decide +kernel
theorem dX11_lawOf_5 : decode cX11_lawOf 5 = .ok (.imul, 1) := by decide +kernel
theorem dX11_lawOf_6 : decode cX11_lawOf 6 = .ok (.iload_n 0, 1) := by decide +kernel
theorem dX11_lawOf_7 : decode cX11_lawOf 7 = .ok (.bipush 8, 2) := by decide +kernel
theorem dX11_lawOf_9 : decode cX11_lawOf 9 = .ok (.irem, 1) := by decide +kernel
theorem dX11_lawOf_10 : decode cX11_lawOf 10 = .ok (.iload_n 2, 1) := by decide +kernel
theorem dX11_lawOf_11 : decode cX11_lawOf 11 = .ok (.imul, 1) := by decide +kernel
theorem dX11_lawOf_12 : decode cX11_lawOf 12 = .ok (.iadd, 1) := by decide +kernel
theorem dX11_lawOf_13 : decode cX11_lawOf 13 = .ok (.bipush 8, 2) := by decide +kernel
theorem dX11_lawOf_15 : decode cX11_lawOf 15 = .ok (.irem, 1) := by decide +kernel
theorem dX11_lawOf_16 : decode cX11_lawOf 16 = .ok (.ireturn, 1) := by decide +kernel
theorem dX11_isLaw_0 : decode cX11_isLaw 0 = .ok (.iconst 1, 1) := by decide +kernel
theorem dX11_isLaw_1 : decode cX11_isLaw 1 = .ok (.istore_n 2, 1) := by decide +kernel
theorem dX11_isLaw_2 : decode cX11_isLaw 2 = .ok (.iconst 0, 1) := by decide +kernel
theorem dX11_isLaw_3 : decode cX11_isLaw 3 = .ok (.istore_n 3, 1) := by decide +kernel
theorem dX11_isLaw_4 : decode cX11_isLaw 4 = .ok (.iload_n 3, 1) := by decide +kernel
theorem dX11_isLaw_5 : decode cX11_isLaw 5 = .ok (.aload_n 0, 1) := by decide +kernel
theorem dX11_isLaw_6 : decode cX11_isLaw 6 = .ok (.getfield 418, 3) := by decide +kernel
theorem dX11_isLaw_9 : decode cX11_isLaw 9 = .ok (.if_icmp .ge 44, 3) := by decide +kernel
theorem dX11_isLaw_12 : decode cX11_isLaw 12 = .ok (.iload_n 2, 1) := by decide +kernel
theorem dX11_isLaw_13 : decode cX11_isLaw 13 = .ok (.ifCond .eq 32, 3) := by decide +kernel
theorem dX11_isLaw_16 : decode cX11_isLaw 16 = .ok (.iload_n 1, 1) := by decide +kernel
theorem dX11_isLaw_17 : decode cX11_isLaw 17 = .ok (.aload_n 0, 1) := by decide +kernel
theorem dX11_isLaw_18 : decode cX11_isLaw 18 = .ok (.getfield 98, 3) := by decide +kernel
theorem dX11_isLaw_21 : decode cX11_isLaw 21 = .ok (.iload_n 3, 1) := by decide +kernel
theorem dX11_isLaw_22 : decode cX11_isLaw 22 = .ok (.iaload, 1) := by decide +kernel
theorem dX11_isLaw_23 : decode cX11_isLaw 23 = .ok (.aload_n 0, 1) := by decide +kernel
theorem dX11_isLaw_24 : decode cX11_isLaw 24 = .ok (.getfield 101, 3) := by decide +kernel
theorem dX11_isLaw_27 : decode cX11_isLaw 27 = .ok (.iload_n 3, 1) := by decide +kernel
theorem dX11_isLaw_28 : decode cX11_isLaw 28 = .ok (.iaload, 1) := by decide +kernel
theorem dX11_isLaw_29 : decode cX11_isLaw 29 = .ok (.invokestatic 421, 3) := by decide +kernel
theorem dX11_isLaw_32 : decode cX11_isLaw 32 = .ok (.aload_n 0, 1) := by decide +kernel
theorem dX11_isLaw_33 : decode cX11_isLaw 33 = .ok (.getfield 104, 3) := by decide +kernel
theorem dX11_isLaw_36 : decode cX11_isLaw 36 = .ok (.iload_n 3, 1) := by decide +kernel
theorem dX11_isLaw_37 : decode cX11_isLaw 37 = .ok (.iaload, 1) := by decide +kernel
theorem dX11_isLaw_38 : decode cX11_isLaw 38 = .ok (.if_icmp .ne 7, 3) := by decide +kernel
theorem dX11_isLaw_41 : decode cX11_isLaw 41 = .ok (.iconst 1, 1) := by decide +kernel
theorem dX11_isLaw_42 : decode cX11_isLaw 42 = .ok (.goto 4, 3) := by decide +kernel
theorem dX11_isLaw_45 : decode cX11_isLaw 45 = .ok (.iconst 0, 1) := by decide +kernel
theorem dX11_isLaw_46 : decode cX11_isLaw 46 = .ok (.istore_n 2, 1) := by decide +kernel
theorem dX11_isLaw_47 : decode cX11_isLaw 47 = .ok (.iinc 3 1, 3) := by decide +kernel
theorem dX11_isLaw_50 : decode cX11_isLaw 50 = .ok (.goto (-46), 3) := by decide +kernel
theorem dX11_isLaw_53 : decode cX11_isLaw 53 = .ok (.iload_n 2, 1) := by decide +kernel
theorem dX11_isLaw_54 : decode cX11_isLaw 54 = .ok (.ireturn, 1) := by decide +kernel
theorem dX11_laws_0 : decode cX11_laws 0 = .ok (.aload_n 0, 1) := by decide +kernel
theorem dX11_laws_1 : decode cX11_laws 1 = .ok (.iconst 0, 1) := by decide +kernel
theorem dX11_laws_2 : decode cX11_laws 2 = .ok (.putfield 3, 3) := by decide +kernel
theorem dX11_laws_5 : decode cX11_laws 5 = .ok (.iconst 0, 1) := by decide +kernel
theorem dX11_laws_6 : decode cX11_laws 6 = .ok (.istore_n 1, 1) := by decide +kernel
theorem dX11_laws_7 : decode cX11_laws 7 = .ok (.aload_n 0, 1) := by decide +kernel
theorem dX11_laws_8 : decode cX11_laws 8 = .ok (.iconst 0, 1) := by decide +kernel
theorem dX11_laws_9 : decode cX11_laws 9 = .ok (.putfield 15, 3) := by decide +kernel
theorem dX11_laws_12 : decode cX11_laws 12 = .ok (.iconst 0, 1) := by decide +kernel
theorem dX11_laws_13 : decode cX11_laws 13 = .ok (.istore_n 2, 1) := by decide +kernel
theorem dX11_laws_14 : decode cX11_laws 14 = .ok (.iload_n 2, 1) := by decide +kernel
theorem dX11_laws_15 : decode cX11_laws 15 = .ok (.bipush 64, 2) := by decide +kernel
theorem dX11_laws_17 : decode cX11_laws 17 = .ok (.if_icmp .ge 48, 3) := by decide +kernel
theorem dX11_laws_20 : decode cX11_laws 20 = .ok (.aload_n 0, 1) := by decide +kernel
theorem dX11_laws_21 : decode cX11_laws 21 = .ok (.iload_n 2, 1) := by decide +kernel
theorem dX11_laws_22 : decode cX11_laws 22 = .ok (.invokevirtual 424, 3) := by decide +kernel
theorem dX11_laws_25 : decode cX11_laws 25 = .ok (.istore_n 3, 1) := by decide +kernel
theorem dX11_laws_26 : decode cX11_laws 26 = .ok (.iload_n 3, 1) := by decide +kernel
theorem dX11_laws_27 : decode cX11_laws 27 = .ok (.ifCond .eq 25, 3) := by decide +kernel
theorem dX11_laws_30 : decode cX11_laws 30 = .ok (.iload_n 1, 1) := by decide +kernel
theorem dX11_laws_31 : decode cX11_laws 31 = .ok (.ifCond .ne 21, 3) := by decide +kernel
theorem dX11_laws_34 : decode cX11_laws 34 = .ok (.aload_n 0, 1) := by decide +kernel
theorem dX11_laws_35 : decode cX11_laws 35 = .ok (.iload_n 2, 1) := by decide +kernel
theorem dX11_laws_36 : decode cX11_laws 36 = .ok (.bipush 8, 2) := by decide +kernel
theorem dX11_laws_38 : decode cX11_laws 38 = .ok (.idiv, 1) := by decide +kernel
theorem dX11_laws_39 : decode cX11_laws 39 = .ok (.i2l, 1) := by decide +kernel
theorem dX11_laws_40 : decode cX11_laws 40 = .ok (.invokevirtual 340, 3) := by decide +kernel
theorem dX11_laws_43 : decode cX11_laws 43 = .ok (.aload_n 0, 1) := by decide +kernel
theorem dX11_laws_44 : decode cX11_laws 44 = .ok (.iload_n 2, 1) := by decide +kernel
theorem dX11_laws_45 : decode cX11_laws 45 = .ok (.bipush 8, 2) := by decide +kernel
theorem dX11_laws_47 : decode cX11_laws 47 = .ok (.irem, 1) := by decide +kernel
theorem dX11_laws_48 : decode cX11_laws 48 = .ok (.i2l, 1) := by decide +kernel
theorem dX11_laws_49 : decode cX11_laws 49 = .ok (.invokevirtual 340, 3) := by decide +kernel
theorem dX11_laws_52 : decode cX11_laws 52 = .ok (.iload_n 1, 1) := by decide +kernel
theorem dX11_laws_53 : decode cX11_laws 53 = .ok (.iload_n 3, 1) := by decide +kernel
theorem dX11_laws_54 : decode cX11_laws 54 = .ok (.invokestatic 155, 3) := by decide +kernel
theorem dX11_laws_57 : decode cX11_laws 57 = .ok (.iadd, 1) := by decide +kernel
theorem dX11_laws_58 : decode cX11_laws 58 = .ok (.istore_n 1, 1) := by decide +kernel
theorem dX11_laws_59 : decode cX11_laws 59 = .ok (.iinc 2 1, 3) := by decide +kernel
theorem dX11_laws_62 : decode cX11_laws 62 = .ok (.goto (-48), 3) := by decide +kernel
theorem dX11_laws_65 : decode cX11_laws 65 = .ok (.iload_n 1, 1) := by decide +kernel
theorem dX11_laws_66 : decode cX11_laws 66 = .ok (.ireturn, 1) := by decide +kernel
theorem dX11_listens_0 : decode cX11_listens 0 = .ok (.aload_n 0, 1) := by decide +kernel
theorem dX11_listens_1 : decode cX11_listens 1 = .ok (.iconst 0, 1) := by decide +kernel
theorem dX11_listens_2 : decode cX11_listens 2 = .ok (.putfield 3, 3) := by decide +kernel
theorem dX11_listens_5 : decode cX11_listens 5 = .ok (.bipush (-2), 2) := by decide +kernel
theorem dX11_listens_7 : decode cX11_listens 7 = .ok (.istore_n 1, 1) := by decide +kernel
theorem dX11_listens_8 : decode cX11_listens 8 = .ok (.ldc_w 290, 3) := by decide +kernel
theorem dX11_listens_11 : decode cX11_listens 11 = .ok (.istore_n 2, 1) := by decide +kernel
theorem dX11_listens_12 : decode cX11_listens 12 = .ok (.iconst 0, 1) := by decide +kernel
theorem dX11_listens_13 : decode cX11_listens 13 = .ok (.istore_n 3, 1) := by decide +kernel
theorem dX11_listens_14 : decode cX11_listens 14 = .ok (.iload_n 3, 1) := by decide +kernel
theorem dX11_listens_15 : decode cX11_listens 15 = .ok (.bipush 80, 2) := by decide +kernel
theorem dX11_listens_17 : decode cX11_listens 17 = .ok (.if_icmp .ge 134, 3) := by decide +kernel
theorem dX11_listens_20 : decode cX11_listens 20 = .ok (.iconst 0, 1) := by decide +kernel
theorem dX11_listens_21 : decode cX11_listens 21 = .ok (.istore 4, 2) := by decide +kernel
theorem dX11_listens_23 : decode cX11_listens 23 = .ok (.iconst 0, 1) := by decide +kernel
theorem dX11_listens_24 : decode cX11_listens 24 = .ok (.istore 5, 2) := by decide +kernel
theorem dX11_listens_26 : decode cX11_listens 26 = .ok (.iload 5, 2) := by decide +kernel
theorem dX11_listens_28 : decode cX11_listens 28 = .ok (.bipush 8, 2) := by decide +kernel
theorem dX11_listens_30 : decode cX11_listens 30 = .ok (.if_icmp .ge 17, 3) := by decide +kernel
theorem dX11_listens_33 : decode cX11_listens 33 = .ok (.aload_n 0, 1) := by decide +kernel
theorem dX11_listens_34 : decode cX11_listens 34 = .ok (.getfield 86, 3) := by decide +kernel
theorem dX11_listens_37 : decode cX11_listens 37 = .ok (.iload 5, 2) := by decide +kernel
theorem dX11_listens_39 : decode cX11_listens 39 = .ok (.iconst 0, 1) := by decide +kernel
theorem dX11_listens_40 : decode cX11_listens 40 = .ok (.iastore, 1) := by decide +kernel
theorem dX11_listens_41 : decode cX11_listens 41 = .ok (.iinc 5 1, 3) := by decide +kernel
theorem dX11_listens_44 : decode cX11_listens 44 = .ok (.goto (-18), 3) := by decide +kernel
theorem dX11_listens_47 : decode cX11_listens 47 = .ok (.iconst 0, 1) := by decide +kernel
theorem dX11_listens_48 : decode cX11_listens 48 = .ok (.istore 5, 2) := by decide +kernel
theorem dX11_listens_50 : decode cX11_listens 50 = .ok (.iload 5, 2) := by decide +kernel
theorem dX11_listens_52 : decode cX11_listens 52 = .ok (.bipush 64, 2) := by decide +kernel
theorem dX11_listens_54 : decode cX11_listens 54 = .ok (.if_icmp .ge 58, 3) := by decide +kernel
theorem dX11_listens_57 : decode cX11_listens 57 = .ok (.aload_n 0, 1) := by decide +kernel
theorem dX11_listens_58 : decode cX11_listens 58 = .ok (.iload 5, 2) := by decide +kernel
theorem dX11_listens_60 : decode cX11_listens 60 = .ok (.invokevirtual 424, 3) := by decide +kernel
theorem dX11_listens_63 : decode cX11_listens 63 = .ok (.ifCond .eq 43, 3) := by decide +kernel
theorem dX11_listens_66 : decode cX11_listens 66 = .ok (.iload 5, 2) := by decide +kernel
theorem dX11_listens_68 : decode cX11_listens 68 = .ok (.iload_n 3, 1) := by decide +kernel
theorem dX11_listens_69 : decode cX11_listens 69 = .ok (.bipush 10, 2) := by decide +kernel
theorem dX11_listens_71 : decode cX11_listens 71 = .ok (.idiv, 1) := by decide +kernel
theorem dX11_listens_72 : decode cX11_listens 72 = .ok (.iload_n 3, 1) := by decide +kernel
theorem dX11_listens_73 : decode cX11_listens 73 = .ok (.bipush 10, 2) := by decide +kernel
theorem dX11_listens_75 : decode cX11_listens 75 = .ok (.irem, 1) := by decide +kernel
theorem dX11_listens_76 : decode cX11_listens 76 = .ok (.invokestatic 421, 3) := by decide +kernel
theorem dX11_listens_79 : decode cX11_listens 79 = .ok (.istore 6, 2) := by decide +kernel
theorem dX11_listens_81 : decode cX11_listens 81 = .ok (.aload_n 0, 1) := by decide +kernel
theorem dX11_listens_82 : decode cX11_listens 82 = .ok (.getfield 86, 3) := by decide +kernel
theorem dX11_listens_85 : decode cX11_listens 85 = .ok (.iload 6, 2) := by decide +kernel
theorem dX11_listens_87 : decode cX11_listens 87 = .ok (.dup2, 1) := by decide +kernel
theorem dX11_listens_88 : decode cX11_listens 88 = .ok (.iaload, 1) := by decide +kernel
theorem dX11_listens_89 : decode cX11_listens 89 = .ok (.iconst 1, 1) := by decide +kernel
theorem dX11_listens_90 : decode cX11_listens 90 = .ok (.iadd, 1) := by decide +kernel
theorem dX11_listens_91 : decode cX11_listens 91 = .ok (.iastore, 1) := by decide +kernel
theorem dX11_listens_92 : decode cX11_listens 92 = .ok (.iload 4, 2) := by decide +kernel
theorem dX11_listens_94 : decode cX11_listens 94 = .ok (.aload_n 0, 1) := by decide +kernel
theorem dX11_listens_95 : decode cX11_listens 95 = .ok (.getfield 86, 3) := by decide +kernel
theorem dX11_listens_98 : decode cX11_listens 98 = .ok (.iload 6, 2) := by decide +kernel
theorem dX11_listens_100 : decode cX11_listens 100 = .ok (.iaload, 1) := by decide +kernel
theorem dX11_listens_101 : decode cX11_listens 101 = .ok (.invokestatic 297, 3) := by decide +kernel
theorem dX11_listens_104 : decode cX11_listens 104 = .ok (.istore 4, 2) := by decide +kernel
theorem dX11_listens_106 : decode cX11_listens 106 = .ok (.iinc 5 1, 3) := by decide +kernel
theorem dX11_listens_109 : decode cX11_listens 109 = .ok (.goto (-59), 3) := by decide +kernel
theorem dX11_listens_112 : decode cX11_listens 112 = .ok (.iload 4, 2) := by decide +kernel
theorem dX11_listens_114 : decode cX11_listens 114 = .ok (.ifCond .le 13, 3) := by decide +kernel
theorem dX11_listens_117 : decode cX11_listens 117 = .ok (.iload 4, 2) := by decide +kernel
theorem dX11_listens_119 : decode cX11_listens 119 = .ok (.iload_n 2, 1) := by decide +kernel
theorem dX11_listens_120 : decode cX11_listens 120 = .ok (.if_icmp .ge 7, 3) := by decide +kernel
theorem dX11_listens_123 : decode cX11_listens 123 = .ok (.iload_n 3, 1) := by decide +kernel
theorem dX11_listens_124 : decode cX11_listens 124 = .ok (.goto 4, 3) := by decide +kernel
theorem dX11_listens_127 : decode cX11_listens 127 = .ok (.iload_n 1, 1) := by decide +kernel
theorem dX11_listens_128 : decode cX11_listens 128 = .ok (.istore_n 1, 1) := by decide +kernel
theorem dX11_listens_129 : decode cX11_listens 129 = .ok (.iload 4, 2) := by decide +kernel
theorem dX11_listens_131 : decode cX11_listens 131 = .ok (.ifCond .le 12, 3) := by decide +kernel
theorem dX11_listens_134 : decode cX11_listens 134 = .ok (.iload_n 2, 1) := by decide +kernel
theorem dX11_listens_135 : decode cX11_listens 135 = .ok (.iload 4, 2) := by decide +kernel
theorem dX11_listens_137 : decode cX11_listens 137 = .ok (.invokestatic 146, 3) := by decide +kernel
theorem dX11_listens_140 : decode cX11_listens 140 = .ok (.goto 4, 3) := by decide +kernel
theorem dX11_listens_143 : decode cX11_listens 143 = .ok (.iload_n 2, 1) := by decide +kernel
theorem dX11_listens_144 : decode cX11_listens 144 = .ok (.istore_n 2, 1) := by decide +kernel
theorem dX11_listens_145 : decode cX11_listens 145 = .ok (.iinc 3 1, 3) := by decide +kernel
theorem dX11_listens_148 : decode cX11_listens 148 = .ok (.goto (-134), 3) := by decide +kernel
theorem dX11_listens_151 : decode cX11_listens 151 = .ok (.iload_n 1, 1) := by decide +kernel
theorem dX11_listens_152 : decode cX11_listens 152 = .ok (.ifCond .lt 14, 3) := by decide +kernel
theorem dX11_listens_155 : decode cX11_listens 155 = .ok (.aload_n 0, 1) := by decide +kernel
theorem dX11_listens_156 : decode cX11_listens 156 = .ok (.iconst 0, 1) := by decide +kernel
theorem dX11_listens_157 : decode cX11_listens 157 = .ok (.putfield 15, 3) := by decide +kernel
theorem dX11_listens_160 : decode cX11_listens 160 = .ok (.aload_n 0, 1) := by decide +kernel
theorem dX11_listens_161 : decode cX11_listens 161 = .ok (.iload_n 2, 1) := by decide +kernel
theorem dX11_listens_162 : decode cX11_listens 162 = .ok (.i2l, 1) := by decide +kernel
theorem dX11_listens_163 : decode cX11_listens 163 = .ok (.invokevirtual 340, 3) := by decide +kernel
theorem dX11_listens_166 : decode cX11_listens 166 = .ok (.iload_n 1, 1) := by decide +kernel
theorem dX11_listens_167 : decode cX11_listens 167 = .ok (.ireturn, 1) := by decide +kernel
theorem dX11_hints_0 : decode cX11_hints 0 = .ok (.aload_n 0, 1) := by decide +kernel
theorem dX11_hints_1 : decode cX11_hints 1 = .ok (.iconst 0, 1) := by decide +kernel
theorem dX11_hints_2 : decode cX11_hints 2 = .ok (.putfield 3, 3) := by decide +kernel
theorem dX11_hints_5 : decode cX11_hints 5 = .ok (.aload_n 0, 1) := by decide +kernel
theorem dX11_hints_6 : decode cX11_hints 6 = .ok (.aload_n 0, 1) := by decide +kernel
theorem dX11_hints_7 : decode cX11_hints 7 = .ok (.getfield 31, 3) := by decide +kernel
theorem dX11_hints_10 : decode cX11_hints 10 = .ok (.iload_n 1, 1) := by decide +kernel
theorem dX11_hints_11 : decode cX11_hints 11 = .ok (.iload_n 2, 1) := by decide +kernel
theorem dX11_hints_12 : decode cX11_hints 12 = .ok (.invokevirtual 326, 3) := by decide +kernel
theorem dX11_hints_15 : decode cX11_hints 15 = .ok (.ifCond .eq 41, 3) := by decide +kernel
theorem dX11_hints_18 : decode cX11_hints 18 = .ok (.iload_n 3, 1) := by decide +kernel
theorem dX11_hints_19 : decode cX11_hints 19 = .ok (.i2l, 1) := by decide +kernel
theorem dX11_hints_20 : decode cX11_hints 20 = .ok (.lconst 0, 1) := by decide +kernel
theorem dX11_hints_21 : decode cX11_hints 21 = .ok (.ldc2_w 135, 3) := by decide +kernel
theorem dX11_hints_24 : decode cX11_hints 24 = .ok (.invokestatic 131, 3) := by decide +kernel
theorem dX11_hints_27 : decode cX11_hints 27 = .ok (.ifCond .eq 29, 3) := by decide +kernel
theorem dX11_hints_30 : decode cX11_hints 30 = .ok (.iload 4, 2) := by decide +kernel
theorem dX11_hints_32 : decode cX11_hints 32 = .ok (.i2l, 1) := by decide +kernel
theorem dX11_hints_33 : decode cX11_hints 33 = .ok (.lconst 0, 1) := by decide +kernel
theorem dX11_hints_34 : decode cX11_hints 34 = .ok (.ldc2_w 135, 3) := by decide +kernel
theorem dX11_hints_37 : decode cX11_hints 37 = .ok (.invokestatic 131, 3) := by decide +kernel
theorem dX11_hints_40 : decode cX11_hints 40 = .ok (.ifCond .eq 16, 3) := by decide +kernel
theorem dX11_hints_43 : decode cX11_hints 43 = .ok (.iload 5, 2) := by decide +kernel
theorem dX11_hints_45 : decode cX11_hints 45 = .ok (.i2l, 1) := by decide +kernel
theorem dX11_hints_46 : decode cX11_hints 46 = .ok (.lconst 0, 1) := by decide +kernel
theorem dX11_hints_47 : decode cX11_hints 47 = .ok (.ldc2_w 427, 3) := by decide +kernel
theorem dX11_hints_50 : decode cX11_hints 50 = .ok (.invokestatic 131, 3) := by decide +kernel
theorem dX11_hints_53 : decode cX11_hints 53 = .ok (.ifCond .ne 5, 3) := by decide +kernel
theorem dX11_hints_56 : decode cX11_hints 56 = .ok (.iconst (-1), 1) := by decide +kernel
theorem dX11_hints_57 : decode cX11_hints 57 = .ok (.ireturn, 1) := by decide +kernel
theorem dX11_hints_58 : decode cX11_hints 58 = .ok (.aload_n 0, 1) := by decide +kernel
theorem dX11_hints_59 : decode cX11_hints 59 = .ok (.aload_n 0, 1) := by decide +kernel
theorem dX11_hints_60 : decode cX11_hints 60 = .ok (.getfield 31, 3) := by decide +kernel
theorem dX11_hints_63 : decode cX11_hints 63 = .ok (.iload_n 1, 1) := by decide +kernel
theorem dX11_hints_64 : decode cX11_hints 64 = .ok (.iload_n 2, 1) := by decide +kernel
theorem dX11_hints_65 : decode cX11_hints 65 = .ok (.invokevirtual 336, 3) := by decide +kernel
theorem dX11_hints_68 : decode cX11_hints 68 = .ok (.lconst 1, 1) := by decide +kernel
theorem dX11_hints_69 : decode cX11_hints 69 = .ok (.lstore 6, 2) := by decide +kernel
theorem dX11_hints_71 : decode cX11_hints 71 = .ok (.iconst 0, 1) := by decide +kernel
theorem dX11_hints_72 : decode cX11_hints 72 = .ok (.istore 8, 2) := by decide +kernel
theorem dX11_hints_74 : decode cX11_hints 74 = .ok (.iload 8, 2) := by decide +kernel
theorem dX11_hints_76 : decode cX11_hints 76 = .ok (.bipush 8, 2) := by decide +kernel
theorem dX11_hints_78 : decode cX11_hints 78 = .ok (.if_icmp .ge 31, 3) := by decide +kernel
theorem dX11_hints_81 : decode cX11_hints 81 = .ok (.aload_n 0, 1) := by decide +kernel
theorem dX11_hints_82 : decode cX11_hints 82 = .ok (.getfield 107, 3) := by decide +kernel
theorem dX11_hints_85 : decode cX11_hints 85 = .ok (.iload 8, 2) := by decide +kernel
theorem dX11_hints_87 : decode cX11_hints 87 = .ok (.iload 8, 2) := by decide +kernel
theorem dX11_hints_89 : decode cX11_hints 89 = .ok (.iload_n 3, 1) := by decide +kernel
theorem dX11_hints_90 : decode cX11_hints 90 = .ok (.if_icmp .ne 7, 3) := by decide +kernel
theorem dX11_hints_93 : decode cX11_hints 93 = .ok (.iconst 1, 1) := by decide +kernel
theorem dX11_hints_94 : decode cX11_hints 94 = .ok (.goto 4, 3) := by decide +kernel
theorem dX11_hints_97 : decode cX11_hints 97 = .ok (.iconst 0, 1) := by decide +kernel
theorem dX11_hints_98 : decode cX11_hints 98 = .ok (.invokestatic 155, 3) := by decide +kernel
theorem dX11_hints_101 : decode cX11_hints 101 = .ok (.i2l, 1) := by decide +kernel
theorem dX11_hints_102 : decode cX11_hints 102 = .ok (.lastore, 1) := by decide +kernel
theorem dX11_hints_103 : decode cX11_hints 103 = .ok (.iinc 8 1, 3) := by decide +kernel
theorem dX11_hints_106 : decode cX11_hints 106 = .ok (.goto (-32), 3) := by decide +kernel
theorem dX11_hints_109 : decode cX11_hints 109 = .ok (.iconst 0, 1) := by decide +kernel
theorem dX11_hints_110 : decode cX11_hints 110 = .ok (.istore 8, 2) := by decide +kernel
theorem dX11_hints_112 : decode cX11_hints 112 = .ok (.iload 8, 2) := by decide +kernel
theorem dX11_hints_114 : decode cX11_hints 114 = .ok (.aload_n 0, 1) := by decide +kernel
theorem dX11_hints_115 : decode cX11_hints 115 = .ok (.getfield 269, 3) := by decide +kernel
theorem dX11_hints_118 : decode cX11_hints 118 = .ok (.if_icmp .ge 144, 3) := by decide +kernel
theorem dX11_hints_121 : decode cX11_hints 121 = .ok (.iconst 0, 1) := by decide +kernel
theorem dX11_hints_122 : decode cX11_hints 122 = .ok (.istore 9, 2) := by decide +kernel
theorem dX11_hints_124 : decode cX11_hints 124 = .ok (.iload 9, 2) := by decide +kernel
theorem dX11_hints_126 : decode cX11_hints 126 = .ok (.bipush 8, 2) := by decide +kernel
theorem dX11_hints_128 : decode cX11_hints 128 = .ok (.if_icmp .ge 27, 3) := by decide +kernel
theorem dX11_hints_131 : decode cX11_hints 131 = .ok (.aload_n 0, 1) := by decide +kernel
theorem dX11_hints_132 : decode cX11_hints 132 = .ok (.getfield 110, 3) := by decide +kernel
theorem dX11_hints_135 : decode cX11_hints 135 = .ok (.iload 9, 2) := by decide +kernel
theorem dX11_hints_137 : decode cX11_hints 137 = .ok (.aload_n 0, 1) := by decide +kernel
theorem dX11_hints_138 : decode cX11_hints 138 = .ok (.getfield 107, 3) := by decide +kernel
theorem dX11_hints_141 : decode cX11_hints 141 = .ok (.iload 9, 2) := by decide +kernel
theorem dX11_hints_143 : decode cX11_hints 143 = .ok (.laload, 1) := by decide +kernel
theorem dX11_hints_144 : decode cX11_hints 144 = .ok (.iload 5, 2) := by decide +kernel
theorem dX11_hints_146 : decode cX11_hints 146 = .ok (.i2l, 1) := by decide +kernel
theorem dX11_hints_147 : decode cX11_hints 147 = .ok (.lmul, 1) := by decide +kernel
theorem dX11_hints_148 : decode cX11_hints 148 = .ok (.lastore, 1) := by decide +kernel
theorem dX11_hints_149 : decode cX11_hints 149 = .ok (.iinc 9 1, 3) := by decide +kernel
theorem dX11_hints_152 : decode cX11_hints 152 = .ok (.goto (-28), 3) := by decide +kernel
theorem dX11_hints_155 : decode cX11_hints 155 = .ok (.iconst 0, 1) := by decide +kernel
theorem dX11_hints_156 : decode cX11_hints 156 = .ok (.istore 9, 2) := by decide +kernel
theorem dX11_hints_158 : decode cX11_hints 158 = .ok (.iload 9, 2) := by decide +kernel
theorem dX11_hints_160 : decode cX11_hints 160 = .ok (.bipush 8, 2) := by decide +kernel
theorem dX11_hints_162 : decode cX11_hints 162 = .ok (.if_icmp .ge 56, 3) := by decide +kernel
theorem dX11_hints_165 : decode cX11_hints 165 = .ok (.aload_n 0, 1) := by decide +kernel
theorem dX11_hints_166 : decode cX11_hints 166 = .ok (.getfield 110, 3) := by decide +kernel
theorem dX11_hints_169 : decode cX11_hints 169 = .ok (.aload_n 0, 1) := by decide +kernel
theorem dX11_hints_170 : decode cX11_hints 170 = .ok (.aload_n 0, 1) := by decide +kernel
theorem dX11_hints_171 : decode cX11_hints 171 = .ok (.getfield 31, 3) := by decide +kernel
theorem dX11_hints_174 : decode cX11_hints 174 = .ok (.aload_n 0, 1) := by decide +kernel
theorem dX11_hints_175 : decode cX11_hints 175 = .ok (.getfield 55, 3) := by decide +kernel
theorem dX11_hints_178 : decode cX11_hints 178 = .ok (.iload 8, 2) := by decide +kernel
theorem dX11_hints_180 : decode cX11_hints 180 = .ok (.iaload, 1) := by decide +kernel
theorem dX11_hints_181 : decode cX11_hints 181 = .ok (.aload_n 0, 1) := by decide +kernel
theorem dX11_hints_182 : decode cX11_hints 182 = .ok (.getfield 58, 3) := by decide +kernel
theorem dX11_hints_185 : decode cX11_hints 185 = .ok (.iload 8, 2) := by decide +kernel
theorem dX11_hints_187 : decode cX11_hints 187 = .ok (.baload, 1) := by decide +kernel
theorem dX11_hints_188 : decode cX11_hints 188 = .ok (.iload 9, 2) := by decide +kernel
theorem dX11_hints_190 : decode cX11_hints 190 = .ok (.iconst 0, 1) := by decide +kernel
theorem dX11_hints_191 : decode cX11_hints 191 = .ok (.invokevirtual 281, 3) := by decide +kernel
theorem dX11_hints_194 : decode cX11_hints 194 = .ok (.dup2, 1) := by decide +kernel
theorem dX11_hints_195 : decode cX11_hints 195 = .ok (.laload, 1) := by decide +kernel
theorem dX11_hints_196 : decode cX11_hints 196 = .ok (.aload_n 0, 1) := by decide +kernel
theorem dX11_hints_197 : decode cX11_hints 197 = .ok (.getfield 107, 3) := by decide +kernel
theorem dX11_hints_200 : decode cX11_hints 200 = .ok (.iload 9, 2) := by decide +kernel
theorem dX11_hints_202 : decode cX11_hints 202 = .ok (.laload, 1) := by decide +kernel
theorem dX11_hints_203 : decode cX11_hints 203 = .ok (.bipush 10, 2) := by decide +kernel
theorem dX11_hints_205 : decode cX11_hints 205 = .ok (.iload 5, 2) := by decide +kernel
theorem dX11_hints_207 : decode cX11_hints 207 = .ok (.isub, 1) := by decide +kernel
theorem dX11_hints_208 : decode cX11_hints 208 = .ok (.i2l, 1) := by decide +kernel
theorem dX11_hints_209 : decode cX11_hints 209 = .ok (.lmul, 1) := by decide +kernel
theorem dX11_hints_210 : decode cX11_hints 210 = .ok (.ladd, 1) := by decide +kernel
theorem dX11_hints_211 : decode cX11_hints 211 = .ok (.lastore, 1) := by decide +kernel
theorem dX11_hints_212 : decode cX11_hints 212 = .ok (.iinc 9 1, 3) := by decide +kernel
theorem dX11_hints_215 : decode cX11_hints 215 = .ok (.goto (-57), 3) := by decide +kernel
theorem dX11_hints_218 : decode cX11_hints 218 = .ok (.iconst 0, 1) := by decide +kernel
theorem dX11_hints_219 : decode cX11_hints 219 = .ok (.istore 9, 2) := by decide +kernel
theorem dX11_hints_221 : decode cX11_hints 221 = .ok (.iload 9, 2) := by decide +kernel
theorem dX11_hints_223 : decode cX11_hints 223 = .ok (.bipush 8, 2) := by decide +kernel
theorem dX11_hints_225 : decode cX11_hints 225 = .ok (.if_icmp .ge 23, 3) := by decide +kernel
theorem dX11_hints_228 : decode cX11_hints 228 = .ok (.aload_n 0, 1) := by decide +kernel
theorem dX11_hints_229 : decode cX11_hints 229 = .ok (.getfield 107, 3) := by decide +kernel
theorem dX11_hints_232 : decode cX11_hints 232 = .ok (.iload 9, 2) := by decide +kernel
theorem dX11_hints_234 : decode cX11_hints 234 = .ok (.aload_n 0, 1) := by decide +kernel
theorem dX11_hints_235 : decode cX11_hints 235 = .ok (.getfield 110, 3) := by decide +kernel
theorem dX11_hints_238 : decode cX11_hints 238 = .ok (.iload 9, 2) := by decide +kernel
theorem dX11_hints_240 : decode cX11_hints 240 = .ok (.laload, 1) := by decide +kernel
theorem dX11_hints_241 : decode cX11_hints 241 = .ok (.lastore, 1) := by decide +kernel
theorem dX11_hints_242 : decode cX11_hints 242 = .ok (.iinc 9 1, 3) := by decide +kernel
theorem dX11_hints_245 : decode cX11_hints 245 = .ok (.goto (-24), 3) := by decide +kernel
theorem dX11_hints_248 : decode cX11_hints 248 = .ok (.lload 6, 2) := by decide +kernel
theorem dX11_hints_250 : decode cX11_hints 250 = .ok (.ldc2_w 427, 3) := by decide +kernel
theorem dX11_hints_253 : decode cX11_hints 253 = .ok (.lmul, 1) := by decide +kernel
theorem dX11_hints_254 : decode cX11_hints 254 = .ok (.lstore 6, 2) := by decide +kernel
theorem dX11_hints_256 : decode cX11_hints 256 = .ok (.iinc 8 1, 3) := by decide +kernel
theorem dX11_hints_259 : decode cX11_hints 259 = .ok (.goto (-147), 3) := by decide +kernel
theorem dX11_hints_262 : decode cX11_hints 262 = .ok (.aload_n 0, 1) := by decide +kernel
theorem dX11_hints_263 : decode cX11_hints 263 = .ok (.getfield 107, 3) := by decide +kernel
theorem dX11_hints_266 : decode cX11_hints 266 = .ok (.iload 4, 2) := by decide +kernel
theorem dX11_hints_268 : decode cX11_hints 268 = .ok (.laload, 1) := by decide +kernel
theorem dX11_hints_269 : decode cX11_hints 269 = .ok (.lload 6, 2) := by decide +kernel
theorem dX11_hints_271 : decode cX11_hints 271 = .ok (.invokestatic 7, 3) := by decide +kernel
theorem dX11_hints_274 : decode cX11_hints 274 = .ok (.lstore 8, 2) := by decide +kernel
theorem dX11_hints_276 : decode cX11_hints 276 = .ok (.aload_n 0, 1) := by decide +kernel
theorem dX11_hints_277 : decode cX11_hints 277 = .ok (.iconst 0, 1) := by decide +kernel
theorem dX11_hints_278 : decode cX11_hints 278 = .ok (.putfield 15, 3) := by decide +kernel
theorem dX11_hints_281 : decode cX11_hints 281 = .ok (.aload_n 0, 1) := by decide +kernel
theorem dX11_hints_282 : decode cX11_hints 282 = .ok (.aload_n 0, 1) := by decide +kernel
theorem dX11_hints_283 : decode cX11_hints 283 = .ok (.getfield 107, 3) := by decide +kernel
theorem dX11_hints_286 : decode cX11_hints 286 = .ok (.iload 4, 2) := by decide +kernel
theorem dX11_hints_288 : decode cX11_hints 288 = .ok (.laload, 1) := by decide +kernel
theorem dX11_hints_289 : decode cX11_hints 289 = .ok (.lload 8, 2) := by decide +kernel
theorem dX11_hints_291 : decode cX11_hints 291 = .ok (.ldiv, 1) := by decide +kernel
theorem dX11_hints_292 : decode cX11_hints 292 = .ok (.invokevirtual 340, 3) := by decide +kernel
theorem dX11_hints_295 : decode cX11_hints 295 = .ok (.aload_n 0, 1) := by decide +kernel
theorem dX11_hints_296 : decode cX11_hints 296 = .ok (.lload 6, 2) := by decide +kernel
theorem dX11_hints_298 : decode cX11_hints 298 = .ok (.lload 8, 2) := by decide +kernel
theorem dX11_hints_300 : decode cX11_hints 300 = .ok (.ldiv, 1) := by decide +kernel
theorem dX11_hints_301 : decode cX11_hints 301 = .ok (.invokevirtual 340, 3) := by decide +kernel
theorem dX11_hints_304 : decode cX11_hints 304 = .ok (.iconst 0, 1) := by decide +kernel
theorem dX11_hints_305 : decode cX11_hints 305 = .ok (.ireturn, 1) := by decide +kernel
theorem dX11_game_0 : decode cX11_game 0 = .ok (.aload_n 0, 1) := by decide +kernel
theorem dX11_game_1 : decode cX11_game 1 = .ok (.iconst 0, 1) := by decide +kernel
theorem dX11_game_2 : decode cX11_game 2 = .ok (.putfield 3, 3) := by decide +kernel
theorem dX11_game_5 : decode cX11_game 5 = .ok (.iload_n 1, 1) := by decide +kernel
theorem dX11_game_6 : decode cX11_game 6 = .ok (.i2l, 1) := by decide +kernel
theorem dX11_game_7 : decode cX11_game 7 = .ok (.lconst 0, 1) := by decide +kernel
theorem dX11_game_8 : decode cX11_game 8 = .ok (.ldc2_w 362, 3) := by decide +kernel
theorem dX11_game_11 : decode cX11_game 11 = .ok (.invokestatic 131, 3) := by decide +kernel
theorem dX11_game_14 : decode cX11_game 14 = .ok (.ifCond .eq 17, 3) := by decide +kernel
theorem dX11_game_17 : decode cX11_game 17 = .ok (.iload_n 2, 1) := by decide +kernel
theorem dX11_game_18 : decode cX11_game 18 = .ok (.i2l, 1) := by decide +kernel
theorem dX11_game_19 : decode cX11_game 19 = .ok (.ldc2_w 300, 3) := by decide +kernel
theorem dX11_game_22 : decode cX11_game 22 = .ok (.ldc2_w 360, 3) := by decide +kernel
theorem dX11_game_25 : decode cX11_game 25 = .ok (.invokestatic 131, 3) := by decide +kernel
theorem dX11_game_28 : decode cX11_game 28 = .ok (.ifCond .ne 5, 3) := by decide +kernel
theorem dX11_game_31 : decode cX11_game 31 = .ok (.iconst (-1), 1) := by decide +kernel
theorem dX11_game_32 : decode cX11_game 32 = .ok (.ireturn, 1) := by decide +kernel
theorem dX11_game_33 : decode cX11_game 33 = .ok (.iconst 0, 1) := by decide +kernel
theorem dX11_game_34 : decode cX11_game 34 = .ok (.istore_n 3, 1) := by decide +kernel
theorem dX11_game_35 : decode cX11_game 35 = .ok (.iload_n 3, 1) := by decide +kernel
theorem dX11_game_36 : decode cX11_game 36 = .ok (.iload_n 1, 1) := by decide +kernel
theorem dX11_game_37 : decode cX11_game 37 = .ok (.if_icmp .gt 130, 3) := by decide +kernel
theorem dX11_game_40 : decode cX11_game 40 = .ok (.iconst 0, 1) := by decide +kernel
theorem dX11_game_41 : decode cX11_game 41 = .ok (.istore 4, 2) := by decide +kernel
theorem dX11_game_43 : decode cX11_game 43 = .ok (.iload 4, 2) := by decide +kernel
theorem dX11_game_45 : decode cX11_game 45 = .ok (.bipush 10, 2) := by decide +kernel
theorem dX11_game_47 : decode cX11_game 47 = .ok (.if_icmp .ge 114, 3) := by decide +kernel
theorem dX11_game_50 : decode cX11_game 50 = .ok (.bipush 100, 2) := by decide +kernel
theorem dX11_game_52 : decode cX11_game 52 = .ok (.istore 5, 2) := by decide +kernel
theorem dX11_game_54 : decode cX11_game 54 = .ok (.iload_n 2, 1) := by decide +kernel
theorem dX11_game_55 : decode cX11_game 55 = .ok (.iload_n 3, 1) := by decide +kernel
theorem dX11_game_56 : decode cX11_game 56 = .ok (.invokestatic 146, 3) := by decide +kernel
theorem dX11_game_59 : decode cX11_game 59 = .ok (.istore 6, 2) := by decide +kernel
theorem dX11_game_61 : decode cX11_game 61 = .ok (.iload 6, 2) := by decide +kernel
theorem dX11_game_63 : decode cX11_game 63 = .ok (.ifCond .le 78, 3) := by decide +kernel
theorem dX11_game_66 : decode cX11_game 66 = .ok (.iload 6, 2) := by decide +kernel
theorem dX11_game_68 : decode cX11_game 68 = .ok (.iload 4, 2) := by decide +kernel
theorem dX11_game_70 : decode cX11_game 70 = .ok (.if_icmp .eq 25, 3) := by decide +kernel
theorem dX11_game_73 : decode cX11_game 73 = .ok (.aload_n 0, 1) := by decide +kernel
theorem dX11_game_74 : decode cX11_game 74 = .ok (.getfield 113, 3) := by decide +kernel
theorem dX11_game_77 : decode cX11_game 77 = .ok (.bipush 10, 2) := by decide +kernel
theorem dX11_game_79 : decode cX11_game 79 = .ok (.iload_n 3, 1) := by decide +kernel
theorem dX11_game_80 : decode cX11_game 80 = .ok (.iload 6, 2) := by decide +kernel
theorem dX11_game_82 : decode cX11_game 82 = .ok (.isub, 1) := by decide +kernel
theorem dX11_game_83 : decode cX11_game 83 = .ok (.imul, 1) := by decide +kernel
theorem dX11_game_84 : decode cX11_game 84 = .ok (.iload 6, 2) := by decide +kernel
theorem dX11_game_86 : decode cX11_game 86 = .ok (.iadd, 1) := by decide +kernel
theorem dX11_game_87 : decode cX11_game 87 = .ok (.iaload, 1) := by decide +kernel
theorem dX11_game_88 : decode cX11_game 88 = .ok (.ifCond .ne 7, 3) := by decide +kernel
theorem dX11_game_91 : decode cX11_game 91 = .ok (.iconst 1, 1) := by decide +kernel
theorem dX11_game_92 : decode cX11_game 92 = .ok (.goto 4, 3) := by decide +kernel
theorem dX11_game_95 : decode cX11_game 95 = .ok (.iconst 0, 1) := by decide +kernel
theorem dX11_game_96 : decode cX11_game 96 = .ok (.istore 7, 2) := by decide +kernel
theorem dX11_game_98 : decode cX11_game 98 = .ok (.iload 6, 2) := by decide +kernel
theorem dX11_game_100 : decode cX11_game 100 = .ok (.iload 4, 2) := by decide +kernel
theorem dX11_game_102 : decode cX11_game 102 = .ok (.if_icmp .ne 8, 3) := by decide +kernel
theorem dX11_game_105 : decode cX11_game 105 = .ok (.iload 5, 2) := by decide +kernel
theorem dX11_game_107 : decode cX11_game 107 = .ok (.goto 26, 3) := by decide +kernel
theorem dX11_game_110 : decode cX11_game 110 = .ok (.iload 7, 2) := by decide +kernel
theorem dX11_game_112 : decode cX11_game 112 = .ok (.ifCond .eq 8, 3) := by decide +kernel
theorem dX11_game_115 : decode cX11_game 115 = .ok (.iload 6, 2) := by decide +kernel
theorem dX11_game_117 : decode cX11_game 117 = .ok (.goto 16, 3) := by decide +kernel
theorem dX11_game_120 : decode cX11_game 120 = .ok (.iload 5, 2) := by decide +kernel
theorem dX11_game_122 : decode cX11_game 122 = .ok (.bipush 100, 2) := by decide +kernel
theorem dX11_game_124 : decode cX11_game 124 = .ok (.if_icmp .ne 7, 3) := by decide +kernel
theorem dX11_game_127 : decode cX11_game 127 = .ok (.iconst 0, 1) := by decide +kernel
theorem dX11_game_128 : decode cX11_game 128 = .ok (.goto 5, 3) := by decide +kernel
theorem dX11_game_131 : decode cX11_game 131 = .ok (.iload 5, 2) := by decide +kernel
theorem dX11_game_133 : decode cX11_game 133 = .ok (.istore 5, 2) := by decide +kernel
theorem dX11_game_135 : decode cX11_game 135 = .ok (.iinc 6 (-1), 3) := by decide +kernel
theorem dX11_game_138 : decode cX11_game 138 = .ok (.goto (-77), 3) := by decide +kernel
theorem dX11_game_141 : decode cX11_game 141 = .ok (.aload_n 0, 1) := by decide +kernel
theorem dX11_game_142 : decode cX11_game 142 = .ok (.getfield 113, 3) := by decide +kernel
theorem dX11_game_145 : decode cX11_game 145 = .ok (.bipush 10, 2) := by decide +kernel
theorem dX11_game_147 : decode cX11_game 147 = .ok (.iload_n 3, 1) := by decide +kernel
theorem dX11_game_148 : decode cX11_game 148 = .ok (.imul, 1) := by decide +kernel
theorem dX11_game_149 : decode cX11_game 149 = .ok (.iload 4, 2) := by decide +kernel
theorem dX11_game_151 : decode cX11_game 151 = .ok (.iadd, 1) := by decide +kernel
theorem dX11_game_152 : decode cX11_game 152 = .ok (.iload 5, 2) := by decide +kernel
theorem dX11_game_154 : decode cX11_game 154 = .ok (.iastore, 1) := by decide +kernel
theorem dX11_game_155 : decode cX11_game 155 = .ok (.iinc 4 1, 3) := by decide +kernel
theorem dX11_game_158 : decode cX11_game 158 = .ok (.goto (-115), 3) := by decide +kernel
theorem dX11_game_161 : decode cX11_game 161 = .ok (.iinc 3 1, 3) := by decide +kernel
theorem dX11_game_164 : decode cX11_game 164 = .ok (.goto (-129), 3) := by decide +kernel
theorem dX11_game_167 : decode cX11_game 167 = .ok (.iload_n 1, 1) := by decide +kernel
theorem dX11_game_168 : decode cX11_game 168 = .ok (.ifCond .ne 7, 3) := by decide +kernel
theorem dX11_game_171 : decode cX11_game 171 = .ok (.iconst 0, 1) := by decide +kernel
theorem dX11_game_172 : decode cX11_game 172 = .ok (.goto 15, 3) := by decide +kernel
theorem dX11_game_175 : decode cX11_game 175 = .ok (.aload_n 0, 1) := by decide +kernel
theorem dX11_game_176 : decode cX11_game 176 = .ok (.getfield 113, 3) := by decide +kernel
theorem dX11_game_179 : decode cX11_game 179 = .ok (.bipush 10, 2) := by decide +kernel
theorem dX11_game_181 : decode cX11_game 181 = .ok (.iload_n 1, 1) := by decide +kernel
theorem dX11_game_182 : decode cX11_game 182 = .ok (.imul, 1) := by decide +kernel
theorem dX11_game_183 : decode cX11_game 183 = .ok (.iaload, 1) := by decide +kernel
theorem dX11_game_184 : decode cX11_game 184 = .ok (.bipush 100, 2) := by decide +kernel
theorem dX11_game_186 : decode cX11_game 186 = .ok (.irem, 1) := by decide +kernel
theorem dX11_game_187 : decode cX11_game 187 = .ok (.ireturn, 1) := by decide +kernel
theorem dX11_keptByAll_0 : decode cX11_keptByAll 0 = .ok (.iconst 0, 1) := by decide +kernel
theorem dX11_keptByAll_1 : decode cX11_keptByAll 1 = .ok (.istore_n 1, 1) := by decide +kernel
theorem dX11_keptByAll_2 : decode cX11_keptByAll 2 = .ok (.iconst 0, 1) := by decide +kernel
theorem dX11_keptByAll_3 : decode cX11_keptByAll 3 = .ok (.istore_n 2, 1) := by decide +kernel
theorem dX11_keptByAll_4 : decode cX11_keptByAll 4 = .ok (.iload_n 2, 1) := by decide +kernel
theorem dX11_keptByAll_5 : decode cX11_keptByAll 5 = .ok (.bipush 8, 2) := by decide +kernel
theorem dX11_keptByAll_7 : decode cX11_keptByAll 7 = .ok (.if_icmp .ge 56, 3) := by decide +kernel
theorem dX11_keptByAll_10 : decode cX11_keptByAll 10 = .ok (.iconst 0, 1) := by decide +kernel
theorem dX11_keptByAll_11 : decode cX11_keptByAll 11 = .ok (.istore_n 3, 1) := by decide +kernel
theorem dX11_keptByAll_12 : decode cX11_keptByAll 12 = .ok (.iload_n 3, 1) := by decide +kernel
theorem dX11_keptByAll_13 : decode cX11_keptByAll 13 = .ok (.aload_n 0, 1) := by decide +kernel
theorem dX11_keptByAll_14 : decode cX11_keptByAll 14 = .ok (.getfield 128, 3) := by decide +kernel
theorem dX11_keptByAll_17 : decode cX11_keptByAll 17 = .ok (.if_icmp .ge 40, 3) := by decide +kernel
theorem dX11_keptByAll_20 : decode cX11_keptByAll 20 = .ok (.aload_n 0, 1) := by decide +kernel
theorem dX11_keptByAll_21 : decode cX11_keptByAll 21 = .ok (.aload_n 0, 1) := by decide +kernel
theorem dX11_keptByAll_22 : decode cX11_keptByAll 22 = .ok (.getfield 31, 3) := by decide +kernel
theorem dX11_keptByAll_25 : decode cX11_keptByAll 25 = .ok (.iload_n 2, 1) := by decide +kernel
theorem dX11_keptByAll_26 : decode cX11_keptByAll 26 = .ok (.iload_n 3, 1) := by decide +kernel
theorem dX11_keptByAll_27 : decode cX11_keptByAll 27 = .ok (.invokevirtual 326, 3) := by decide +kernel
theorem dX11_keptByAll_30 : decode cX11_keptByAll 30 = .ok (.ifCond .eq 21, 3) := by decide +kernel
theorem dX11_keptByAll_33 : decode cX11_keptByAll 33 = .ok (.aload_n 0, 1) := by decide +kernel
theorem dX11_keptByAll_34 : decode cX11_keptByAll 34 = .ok (.aload_n 0, 1) := by decide +kernel
theorem dX11_keptByAll_35 : decode cX11_keptByAll 35 = .ok (.getfield 31, 3) := by decide +kernel
theorem dX11_keptByAll_38 : decode cX11_keptByAll 38 = .ok (.iload_n 2, 1) := by decide +kernel
theorem dX11_keptByAll_39 : decode cX11_keptByAll 39 = .ok (.iload_n 3, 1) := by decide +kernel
theorem dX11_keptByAll_40 : decode cX11_keptByAll 40 = .ok (.invokevirtual 336, 3) := by decide +kernel
theorem dX11_keptByAll_43 : decode cX11_keptByAll 43 = .ok (.iload_n 1, 1) := by decide +kernel
theorem dX11_keptByAll_44 : decode cX11_keptByAll 44 = .ok (.aload_n 0, 1) := by decide +kernel
theorem dX11_keptByAll_45 : decode cX11_keptByAll 45 = .ok (.iconst 0, 1) := by decide +kernel
theorem dX11_keptByAll_46 : decode cX11_keptByAll 46 = .ok (.invokevirtual 387, 3) := by decide +kernel
theorem dX11_keptByAll_49 : decode cX11_keptByAll 49 = .ok (.iadd, 1) := by decide +kernel
theorem dX11_keptByAll_50 : decode cX11_keptByAll 50 = .ok (.istore_n 1, 1) := by decide +kernel
theorem dX11_keptByAll_51 : decode cX11_keptByAll 51 = .ok (.iinc 3 1, 3) := by decide +kernel
theorem dX11_keptByAll_54 : decode cX11_keptByAll 54 = .ok (.goto (-42), 3) := by decide +kernel
theorem dX11_keptByAll_57 : decode cX11_keptByAll 57 = .ok (.iinc 2 1, 3) := by decide +kernel
theorem dX11_keptByAll_60 : decode cX11_keptByAll 60 = .ok (.goto (-56), 3) := by decide +kernel
theorem dX11_keptByAll_63 : decode cX11_keptByAll 63 = .ok (.iload_n 1, 1) := by decide +kernel
theorem dX11_keptByAll_64 : decode cX11_keptByAll 64 = .ok (.ireturn, 1) := by decide +kernel
theorem dX11_law_0 : decode cX11_law 0 = .ok (.aload_n 0, 1) := by decide +kernel
theorem dX11_law_1 : decode cX11_law 1 = .ok (.iconst 0, 1) := by decide +kernel
theorem dX11_law_2 : decode cX11_law 2 = .ok (.putfield 3, 3) := by decide +kernel
theorem dX11_law_5 : decode cX11_law 5 = .ok (.aload_n 0, 1) := by decide +kernel
theorem dX11_law_6 : decode cX11_law 6 = .ok (.invokevirtual 240, 3) := by decide +kernel
theorem dX11_law_9 : decode cX11_law 9 = .ok (.istore_n 1, 1) := by decide +kernel
theorem dX11_law_10 : decode cX11_law 10 = .ok (.iload_n 1, 1) := by decide +kernel
theorem dX11_law_11 : decode cX11_law 11 = .ok (.ifCond .ge 11, 3) := by decide +kernel
theorem dX11_law_14 : decode cX11_law 14 = .ok (.iload_n 1, 1) := by decide +kernel
theorem dX11_law_15 : decode cX11_law 15 = .ok (.iconst 1, 1) := by decide +kernel
theorem dX11_law_16 : decode cX11_law 16 = .ok (.iadd, 1) := by decide +kernel
theorem dX11_law_17 : decode cX11_law 17 = .ok (.sipush 10000, 3) := by decide +kernel
theorem dX11_law_20 : decode cX11_law 20 = .ok (.isub, 1) := by decide +kernel
theorem dX11_law_21 : decode cX11_law 21 = .ok (.ireturn, 1) := by decide +kernel
theorem dX11_law_22 : decode cX11_law 22 = .ok (.aload_n 0, 1) := by decide +kernel
theorem dX11_law_23 : decode cX11_law 23 = .ok (.invokevirtual 429, 3) := by decide +kernel
theorem dX11_law_26 : decode cX11_law 26 = .ok (.istore_n 2, 1) := by decide +kernel
theorem dX11_law_27 : decode cX11_law 27 = .ok (.aload_n 0, 1) := by decide +kernel
theorem dX11_law_28 : decode cX11_law 28 = .ok (.getfield 237, 3) := by decide +kernel
theorem dX11_law_31 : decode cX11_law 31 = .ok (.istore_n 3, 1) := by decide +kernel
theorem dX11_law_32 : decode cX11_law 32 = .ok (.iconst 0, 1) := by decide +kernel
theorem dX11_law_33 : decode cX11_law 33 = .ok (.istore 4, 2) := by decide +kernel
theorem dX11_law_35 : decode cX11_law 35 = .ok (.iload 4, 2) := by decide +kernel
theorem dX11_law_37 : decode cX11_law 37 = .ok (.aload_n 0, 1) := by decide +kernel
theorem dX11_law_38 : decode cX11_law 38 = .ok (.getfield 237, 3) := by decide +kernel
theorem dX11_law_41 : decode cX11_law 41 = .ok (.if_icmp .ge 23, 3) := by decide +kernel
theorem dX11_law_44 : decode cX11_law 44 = .ok (.aload_n 0, 1) := by decide +kernel
theorem dX11_law_45 : decode cX11_law 45 = .ok (.getfield 116, 3) := by decide +kernel
theorem dX11_law_48 : decode cX11_law 48 = .ok (.iload 4, 2) := by decide +kernel
theorem dX11_law_50 : decode cX11_law 50 = .ok (.aload_n 0, 1) := by decide +kernel
theorem dX11_law_51 : decode cX11_law 51 = .ok (.getfield 43, 3) := by decide +kernel
theorem dX11_law_54 : decode cX11_law 54 = .ok (.iload 4, 2) := by decide +kernel
theorem dX11_law_56 : decode cX11_law 56 = .ok (.iaload, 1) := by decide +kernel
theorem dX11_law_57 : decode cX11_law 57 = .ok (.iastore, 1) := by decide +kernel
theorem dX11_law_58 : decode cX11_law 58 = .ok (.iinc 4 1, 3) := by decide +kernel
theorem dX11_law_61 : decode cX11_law 61 = .ok (.goto (-26), 3) := by decide +kernel
theorem dX11_law_64 : decode cX11_law 64 = .ok (.aload_n 0, 1) := by decide +kernel
theorem dX11_law_65 : decode cX11_law 65 = .ok (.aload_n 0, 1) := by decide +kernel
theorem dX11_law_66 : decode cX11_law 66 = .ok (.getfield 46, 3) := by decide +kernel
theorem dX11_law_69 : decode cX11_law 69 = .ok (.aload_n 0, 1) := by decide +kernel
theorem dX11_law_70 : decode cX11_law 70 = .ok (.getfield 212, 3) := by decide +kernel
theorem dX11_law_73 : decode cX11_law 73 = .ok (.invokevirtual 243, 3) := by decide +kernel
theorem dX11_law_76 : decode cX11_law 76 = .ok (.aload_n 0, 1) := by decide +kernel
theorem dX11_law_77 : decode cX11_law 77 = .ok (.invokevirtual 429, 3) := by decide +kernel
theorem dX11_law_80 : decode cX11_law 80 = .ok (.istore 4, 2) := by decide +kernel
theorem dX11_law_82 : decode cX11_law 82 = .ok (.aload_n 0, 1) := by decide +kernel
theorem dX11_law_83 : decode cX11_law 83 = .ok (.aload_n 0, 1) := by decide +kernel
theorem dX11_law_84 : decode cX11_law 84 = .ok (.getfield 116, 3) := by decide +kernel
theorem dX11_law_87 : decode cX11_law 87 = .ok (.iload_n 3, 1) := by decide +kernel
theorem dX11_law_88 : decode cX11_law 88 = .ok (.invokevirtual 243, 3) := by decide +kernel
theorem dX11_law_91 : decode cX11_law 91 = .ok (.aload_n 0, 1) := by decide +kernel
theorem dX11_law_92 : decode cX11_law 92 = .ok (.iconst 0, 1) := by decide +kernel
theorem dX11_law_93 : decode cX11_law 93 = .ok (.putfield 15, 3) := by decide +kernel
theorem dX11_law_96 : decode cX11_law 96 = .ok (.aload_n 0, 1) := by decide +kernel
theorem dX11_law_97 : decode cX11_law 97 = .ok (.iload 4, 2) := by decide +kernel
theorem dX11_law_99 : decode cX11_law 99 = .ok (.i2l, 1) := by decide +kernel
theorem dX11_law_100 : decode cX11_law 100 = .ok (.invokevirtual 340, 3) := by decide +kernel
theorem dX11_law_103 : decode cX11_law 103 = .ok (.aload_n 0, 1) := by decide +kernel
theorem dX11_law_104 : decode cX11_law 104 = .ok (.iload_n 2, 1) := by decide +kernel
theorem dX11_law_105 : decode cX11_law 105 = .ok (.i2l, 1) := by decide +kernel
theorem dX11_law_106 : decode cX11_law 106 = .ok (.invokevirtual 340, 3) := by decide +kernel
theorem dX11_law_109 : decode cX11_law 109 = .ok (.iload 4, 2) := by decide +kernel
theorem dX11_law_111 : decode cX11_law 111 = .ok (.iload_n 2, 1) := by decide +kernel
theorem dX11_law_112 : decode cX11_law 112 = .ok (.isub, 1) := by decide +kernel
theorem dX11_law_113 : decode cX11_law 113 = .ok (.ireturn, 1) := by decide +kernel
theorem dX11_gets_0 : decode cX11_gets 0 = .ok (.iload_n 0, 1) := by decide +kernel
theorem dX11_gets_1 : decode cX11_gets 1 = .ok (.iload_n 1, 1) := by decide +kernel
theorem dX11_gets_2 : decode cX11_gets 2 = .ok (.if_icmp .ge 11, 3) := by decide +kernel
theorem dX11_gets_5 : decode cX11_gets 5 = .ok (.iload_n 0, 1) := by decide +kernel
theorem dX11_gets_6 : decode cX11_gets 6 = .ok (.iload_n 2, 1) := by decide +kernel
theorem dX11_gets_7 : decode cX11_gets 7 = .ok (.iconst 4, 1) := by decide +kernel
theorem dX11_gets_8 : decode cX11_gets 8 = .ok (.idiv, 1) := by decide +kernel
theorem dX11_gets_9 : decode cX11_gets 9 = .ok (.iadd, 1) := by decide +kernel
theorem dX11_gets_10 : decode cX11_gets 10 = .ok (.goto 19, 3) := by decide +kernel
theorem dX11_gets_13 : decode cX11_gets 13 = .ok (.iload_n 0, 1) := by decide +kernel
theorem dX11_gets_14 : decode cX11_gets 14 = .ok (.iload_n 1, 1) := by decide +kernel
theorem dX11_gets_15 : decode cX11_gets 15 = .ok (.if_icmp .ne 13, 3) := by decide +kernel
theorem dX11_gets_18 : decode cX11_gets 18 = .ok (.iload_n 0, 1) := by decide +kernel
theorem dX11_gets_19 : decode cX11_gets 19 = .ok (.iload_n 2, 1) := by decide +kernel
theorem dX11_gets_20 : decode cX11_gets 20 = .ok (.iconst 4, 1) := by decide +kernel
theorem dX11_gets_21 : decode cX11_gets 21 = .ok (.idiv, 1) := by decide +kernel
theorem dX11_gets_22 : decode cX11_gets 22 = .ok (.iadd, 1) := by decide +kernel
theorem dX11_gets_23 : decode cX11_gets 23 = .ok (.iconst 2, 1) := by decide +kernel
theorem dX11_gets_24 : decode cX11_gets 24 = .ok (.idiv, 1) := by decide +kernel
theorem dX11_gets_25 : decode cX11_gets 25 = .ok (.goto 4, 3) := by decide +kernel
theorem dX11_gets_28 : decode cX11_gets 28 = .ok (.iconst (-1), 1) := by decide +kernel
theorem dX11_gets_29 : decode cX11_gets 29 = .ok (.ireturn, 1) := by decide +kernel
theorem dX11_isRest_0 : decode cX11_isRest 0 = .ok (.iconst 1, 1) := by decide +kernel
theorem dX11_isRest_1 : decode cX11_isRest 1 = .ok (.istore_n 3, 1) := by decide +kernel
theorem dX11_isRest_2 : decode cX11_isRest 2 = .ok (.iconst 0, 1) := by decide +kernel
theorem dX11_isRest_3 : decode cX11_isRest 3 = .ok (.istore 4, 2) := by decide +kernel
theorem dX11_isRest_5 : decode cX11_isRest 5 = .ok (.iload 4, 2) := by decide +kernel
theorem dX11_isRest_7 : decode cX11_isRest 7 = .ok (.bipush 9, 2) := by decide +kernel
theorem dX11_isRest_9 : decode cX11_isRest 9 = .ok (.if_icmp .gt 35, 3) := by decide +kernel
theorem dX11_isRest_12 : decode cX11_isRest 12 = .ok (.iload_n 3, 1) := by decide +kernel
theorem dX11_isRest_13 : decode cX11_isRest 13 = .ok (.ifCond .eq 23, 3) := by decide +kernel
theorem dX11_isRest_16 : decode cX11_isRest 16 = .ok (.iload 4, 2) := by decide +kernel
theorem dX11_isRest_18 : decode cX11_isRest 18 = .ok (.iload_n 1, 1) := by decide +kernel
theorem dX11_isRest_19 : decode cX11_isRest 19 = .ok (.iload_n 2, 1) := by decide +kernel
theorem dX11_isRest_20 : decode cX11_isRest 20 = .ok (.invokestatic 432, 3) := by decide +kernel
theorem dX11_isRest_23 : decode cX11_isRest 23 = .ok (.iload_n 0, 1) := by decide +kernel
theorem dX11_isRest_24 : decode cX11_isRest 24 = .ok (.iload_n 1, 1) := by decide +kernel
theorem dX11_isRest_25 : decode cX11_isRest 25 = .ok (.iload_n 2, 1) := by decide +kernel
theorem dX11_isRest_26 : decode cX11_isRest 26 = .ok (.invokestatic 432, 3) := by decide +kernel
theorem dX11_isRest_29 : decode cX11_isRest 29 = .ok (.if_icmp .gt 7, 3) := by decide +kernel
theorem dX11_isRest_32 : decode cX11_isRest 32 = .ok (.iconst 1, 1) := by decide +kernel
theorem dX11_isRest_33 : decode cX11_isRest 33 = .ok (.goto 4, 3) := by decide +kernel
theorem dX11_isRest_36 : decode cX11_isRest 36 = .ok (.iconst 0, 1) := by decide +kernel
theorem dX11_isRest_37 : decode cX11_isRest 37 = .ok (.istore_n 3, 1) := by decide +kernel
theorem dX11_isRest_38 : decode cX11_isRest 38 = .ok (.iinc 4 1, 3) := by decide +kernel
theorem dX11_isRest_41 : decode cX11_isRest 41 = .ok (.goto (-36), 3) := by decide +kernel
theorem dX11_isRest_44 : decode cX11_isRest 44 = .ok (.iload_n 3, 1) := by decide +kernel
theorem dX11_isRest_45 : decode cX11_isRest 45 = .ok (.ireturn, 1) := by decide +kernel
theorem dX11_rests_0 : decode cX11_rests 0 = .ok (.aload_n 0, 1) := by decide +kernel
theorem dX11_rests_1 : decode cX11_rests 1 = .ok (.iconst 0, 1) := by decide +kernel
theorem dX11_rests_2 : decode cX11_rests 2 = .ok (.putfield 3, 3) := by decide +kernel
theorem dX11_rests_5 : decode cX11_rests 5 = .ok (.iload_n 1, 1) := by decide +kernel
theorem dX11_rests_6 : decode cX11_rests 6 = .ok (.i2l, 1) := by decide +kernel
theorem dX11_rests_7 : decode cX11_rests 7 = .ok (.lconst 0, 1) := by decide +kernel
theorem dX11_rests_8 : decode cX11_rests 8 = .ok (.ldc2_w 435, 3) := by decide +kernel
theorem dX11_rests_11 : decode cX11_rests 11 = .ok (.invokestatic 131, 3) := by decide +kernel
theorem dX11_rests_14 : decode cX11_rests 14 = .ok (.ifCond .ne 5, 3) := by decide +kernel
theorem dX11_rests_17 : decode cX11_rests 17 = .ok (.iconst (-1), 1) := by decide +kernel
theorem dX11_rests_18 : decode cX11_rests 18 = .ok (.ireturn, 1) := by decide +kernel
theorem dX11_rests_19 : decode cX11_rests 19 = .ok (.iconst 0, 1) := by decide +kernel
theorem dX11_rests_20 : decode cX11_rests 20 = .ok (.istore_n 2, 1) := by decide +kernel
theorem dX11_rests_21 : decode cX11_rests 21 = .ok (.aload_n 0, 1) := by decide +kernel
theorem dX11_rests_22 : decode cX11_rests 22 = .ok (.iconst 0, 1) := by decide +kernel
theorem dX11_rests_23 : decode cX11_rests 23 = .ok (.putfield 15, 3) := by decide +kernel
theorem dX11_rests_26 : decode cX11_rests 26 = .ok (.iconst 0, 1) := by decide +kernel
theorem dX11_rests_27 : decode cX11_rests 27 = .ok (.istore_n 3, 1) := by decide +kernel
theorem dX11_rests_28 : decode cX11_rests 28 = .ok (.iload_n 3, 1) := by decide +kernel
theorem dX11_rests_29 : decode cX11_rests 29 = .ok (.bipush 9, 2) := by decide +kernel
theorem dX11_rests_31 : decode cX11_rests 31 = .ok (.if_icmp .gt 65, 3) := by decide +kernel
theorem dX11_rests_34 : decode cX11_rests 34 = .ok (.iconst 0, 1) := by decide +kernel
theorem dX11_rests_35 : decode cX11_rests 35 = .ok (.istore 4, 2) := by decide +kernel
theorem dX11_rests_37 : decode cX11_rests 37 = .ok (.iload 4, 2) := by decide +kernel
theorem dX11_rests_39 : decode cX11_rests 39 = .ok (.bipush 9, 2) := by decide +kernel
theorem dX11_rests_41 : decode cX11_rests 41 = .ok (.if_icmp .gt 49, 3) := by decide +kernel
theorem dX11_rests_44 : decode cX11_rests 44 = .ok (.iload_n 3, 1) := by decide +kernel
theorem dX11_rests_45 : decode cX11_rests 45 = .ok (.iload 4, 2) := by decide +kernel
theorem dX11_rests_47 : decode cX11_rests 47 = .ok (.iload_n 1, 1) := by decide +kernel
theorem dX11_rests_48 : decode cX11_rests 48 = .ok (.invokestatic 437, 3) := by decide +kernel
theorem dX11_rests_51 : decode cX11_rests 51 = .ok (.ifCond .eq 33, 3) := by decide +kernel
theorem dX11_rests_54 : decode cX11_rests 54 = .ok (.iload 4, 2) := by decide +kernel
theorem dX11_rests_56 : decode cX11_rests 56 = .ok (.iload_n 3, 1) := by decide +kernel
theorem dX11_rests_57 : decode cX11_rests 57 = .ok (.iload_n 1, 1) := by decide +kernel
theorem dX11_rests_58 : decode cX11_rests 58 = .ok (.invokestatic 437, 3) := by decide +kernel
theorem dX11_rests_61 : decode cX11_rests 61 = .ok (.ifCond .eq 23, 3) := by decide +kernel
theorem dX11_rests_64 : decode cX11_rests 64 = .ok (.iload_n 2, 1) := by decide +kernel
theorem dX11_rests_65 : decode cX11_rests 65 = .ok (.ifCond .ne 16, 3) := by decide +kernel
theorem dX11_rests_68 : decode cX11_rests 68 = .ok (.aload_n 0, 1) := by decide +kernel
theorem dX11_rests_69 : decode cX11_rests 69 = .ok (.iload_n 3, 1) := by decide +kernel
theorem dX11_rests_70 : decode cX11_rests 70 = .ok (.i2l, 1) := by decide +kernel
theorem dX11_rests_71 : decode cX11_rests 71 = .ok (.invokevirtual 340, 3) := by decide +kernel
theorem dX11_rests_74 : decode cX11_rests 74 = .ok (.aload_n 0, 1) := by decide +kernel
theorem dX11_rests_75 : decode cX11_rests 75 = .ok (.iload 4, 2) := by decide +kernel
theorem dX11_rests_77 : decode cX11_rests 77 = .ok (.i2l, 1) := by decide +kernel
theorem dX11_rests_78 : decode cX11_rests 78 = .ok (.invokevirtual 340, 3) := by decide +kernel
theorem dX11_rests_81 : decode cX11_rests 81 = .ok (.iinc 2 1, 3) := by decide +kernel
theorem dX11_rests_84 : decode cX11_rests 84 = .ok (.iinc 4 1, 3) := by decide +kernel
theorem dX11_rests_87 : decode cX11_rests 87 = .ok (.goto (-50), 3) := by decide +kernel
theorem dX11_rests_90 : decode cX11_rests 90 = .ok (.iinc 3 1, 3) := by decide +kernel
theorem dX11_rests_93 : decode cX11_rests 93 = .ok (.goto (-65), 3) := by decide +kernel
theorem dX11_rests_96 : decode cX11_rests 96 = .ok (.iload_n 2, 1) := by decide +kernel
theorem dX11_rests_97 : decode cX11_rests 97 = .ok (.ireturn, 1) := by decide +kernel
theorem dX11_draws_0 : decode cX11_draws 0 = .ok (.aload_n 0, 1) := by decide +kernel
theorem dX11_draws_1 : decode cX11_draws 1 = .ok (.aload_n 0, 1) := by decide +kernel
theorem dX11_draws_2 : decode cX11_draws 2 = .ok (.getfield 440, 3) := by decide +kernel
theorem dX11_draws_5 : decode cX11_draws 5 = .ok (.ldc_w 443, 3) := by decide +kernel
theorem dX11_draws_8 : decode cX11_draws 8 = .ok (.imul, 1) := by decide +kernel
theorem dX11_draws_9 : decode cX11_draws 9 = .ok (.sipush 12345, 3) := by decide +kernel
theorem dX11_draws_12 : decode cX11_draws 12 = .ok (.iadd, 1) := by decide +kernel
theorem dX11_draws_13 : decode cX11_draws 13 = .ok (.putfield 440, 3) := by decide +kernel
theorem dX11_draws_16 : decode cX11_draws 16 = .ok (.aload_n 0, 1) := by decide +kernel
theorem dX11_draws_17 : decode cX11_draws 17 = .ok (.getfield 440, 3) := by decide +kernel
theorem dX11_draws_20 : decode cX11_draws 20 = .ok (.bipush 16, 2) := by decide +kernel
theorem dX11_draws_22 : decode cX11_draws 22 = .ok (.iushr, 1) := by decide +kernel
theorem dX11_draws_23 : decode cX11_draws 23 = .ok (.iload_n 1, 1) := by decide +kernel
theorem dX11_draws_24 : decode cX11_draws 24 = .ok (.irem, 1) := by decide +kernel
theorem dX11_draws_25 : decode cX11_draws 25 = .ok (.ireturn, 1) := by decide +kernel
theorem dX11_years_0 : decode cX11_years 0 = .ok (.aload_n 0, 1) := by decide +kernel
theorem dX11_years_1 : decode cX11_years 1 = .ok (.iconst 0, 1) := by decide +kernel
theorem dX11_years_2 : decode cX11_years 2 = .ok (.putfield 3, 3) := by decide +kernel
theorem dX11_years_5 : decode cX11_years 5 = .ok (.iload_n 2, 1) := by decide +kernel
theorem dX11_years_6 : decode cX11_years 6 = .ok (.i2l, 1) := by decide +kernel
theorem dX11_years_7 : decode cX11_years 7 = .ok (.lconst 1, 1) := by decide +kernel
theorem dX11_years_8 : decode cX11_years 8 = .ok (.ldc2_w 362, 3) := by decide +kernel
theorem dX11_years_11 : decode cX11_years 11 = .ok (.invokestatic 131, 3) := by decide +kernel
theorem dX11_years_14 : decode cX11_years 14 = .ok (.ifCond .ne 5, 3) := by decide +kernel
theorem dX11_years_17 : decode cX11_years 17 = .ok (.iconst (-1), 1) := by decide +kernel
theorem dX11_years_18 : decode cX11_years 18 = .ok (.ireturn, 1) := by decide +kernel
theorem dX11_years_19 : decode cX11_years 19 = .ok (.aload_n 0, 1) := by decide +kernel
theorem dX11_years_20 : decode cX11_years 20 = .ok (.iload_n 1, 1) := by decide +kernel
theorem dX11_years_21 : decode cX11_years 21 = .ok (.putfield 440, 3) := by decide +kernel
theorem dX11_years_24 : decode cX11_years 24 = .ok (.aload_n 0, 1) := by decide +kernel
theorem dX11_years_25 : decode cX11_years 25 = .ok (.invokevirtual 444, 3) := by decide +kernel
theorem dX11_years_28 : decode cX11_years 28 = .ok (.iconst 0, 1) := by decide +kernel
theorem dX11_years_29 : decode cX11_years 29 = .ok (.istore_n 3, 1) := by decide +kernel
theorem dX11_years_30 : decode cX11_years 30 = .ok (.iconst 0, 1) := by decide +kernel
theorem dX11_years_31 : decode cX11_years 31 = .ok (.istore 4, 2) := by decide +kernel
theorem dX11_years_33 : decode cX11_years 33 = .ok (.iload 4, 2) := by decide +kernel
theorem dX11_years_35 : decode cX11_years 35 = .ok (.iload_n 2, 1) := by decide +kernel
theorem dX11_years_36 : decode cX11_years 36 = .ok (.if_icmp .ge 129, 3) := by decide +kernel
theorem dX11_years_39 : decode cX11_years 39 = .ok (.aload_n 0, 1) := by decide +kernel
theorem dX11_years_40 : decode cX11_years 40 = .ok (.iconst 4, 1) := by decide +kernel
theorem dX11_years_41 : decode cX11_years 41 = .ok (.invokevirtual 447, 3) := by decide +kernel
theorem dX11_years_44 : decode cX11_years 44 = .ok (.istore 5, 2) := by decide +kernel
theorem dX11_years_46 : decode cX11_years 46 = .ok (.iload 5, 2) := by decide +kernel
theorem dX11_years_48 : decode cX11_years 48 = .ok (.ifCond .ne 15, 3) := by decide +kernel
theorem dX11_years_51 : decode cX11_years 51 = .ok (.aload_n 0, 1) := by decide +kernel
theorem dX11_years_52 : decode cX11_years 52 = .ok (.aload_n 0, 1) := by decide +kernel
theorem dX11_years_53 : decode cX11_years 53 = .ok (.getfield 34, 3) := by decide +kernel
theorem dX11_years_56 : decode cX11_years 56 = .ok (.iconst 1, 1) := by decide +kernel
theorem dX11_years_57 : decode cX11_years 57 = .ok (.invokevirtual 364, 3) := by decide +kernel
theorem dX11_years_60 : decode cX11_years 60 = .ok (.goto 99, 3) := by decide +kernel
theorem dX11_years_63 : decode cX11_years 63 = .ok (.aload_n 0, 1) := by decide +kernel
theorem dX11_years_64 : decode cX11_years 64 = .ok (.getfield 128, 3) := by decide +kernel
theorem dX11_years_67 : decode cX11_years 67 = .ok (.ifCond .le 68, 3) := by decide +kernel
theorem dX11_years_70 : decode cX11_years 70 = .ok (.iload 5, 2) := by decide +kernel
theorem dX11_years_72 : decode cX11_years 72 = .ok (.iconst 3, 1) := by decide +kernel
theorem dX11_years_73 : decode cX11_years 73 = .ok (.if_icmp .ge 62, 3) := by decide +kernel
theorem dX11_years_76 : decode cX11_years 76 = .ok (.aload_n 0, 1) := by decide +kernel
theorem dX11_years_77 : decode cX11_years 77 = .ok (.bipush 8, 2) := by decide +kernel
theorem dX11_years_79 : decode cX11_years 79 = .ok (.invokevirtual 447, 3) := by decide +kernel
theorem dX11_years_82 : decode cX11_years 82 = .ok (.istore 6, 2) := by decide +kernel
theorem dX11_years_84 : decode cX11_years 84 = .ok (.aload_n 0, 1) := by decide +kernel
theorem dX11_years_85 : decode cX11_years 85 = .ok (.aload_n 0, 1) := by decide +kernel
theorem dX11_years_86 : decode cX11_years 86 = .ok (.getfield 128, 3) := by decide +kernel
theorem dX11_years_89 : decode cX11_years 89 = .ok (.invokevirtual 447, 3) := by decide +kernel
theorem dX11_years_92 : decode cX11_years 92 = .ok (.istore 7, 2) := by decide +kernel
theorem dX11_years_94 : decode cX11_years 94 = .ok (.aload_n 0, 1) := by decide +kernel
theorem dX11_years_95 : decode cX11_years 95 = .ok (.aload_n 0, 1) := by decide +kernel
theorem dX11_years_96 : decode cX11_years 96 = .ok (.getfield 34, 3) := by decide +kernel
theorem dX11_years_99 : decode cX11_years 99 = .ok (.iload 6, 2) := by decide +kernel
theorem dX11_years_101 : decode cX11_years 101 = .ok (.iload 7, 2) := by decide +kernel
theorem dX11_years_103 : decode cX11_years 103 = .ok (.invokevirtual 326, 3) := by decide +kernel
theorem dX11_years_106 : decode cX11_years 106 = .ok (.ifCond .eq 26, 3) := by decide +kernel
theorem dX11_years_109 : decode cX11_years 109 = .ok (.aload_n 0, 1) := by decide +kernel
theorem dX11_years_110 : decode cX11_years 110 = .ok (.aload_n 0, 1) := by decide +kernel
theorem dX11_years_111 : decode cX11_years 111 = .ok (.getfield 34, 3) := by decide +kernel
theorem dX11_years_114 : decode cX11_years 114 = .ok (.iload 6, 2) := by decide +kernel
theorem dX11_years_116 : decode cX11_years 116 = .ok (.iload 7, 2) := by decide +kernel
theorem dX11_years_118 : decode cX11_years 118 = .ok (.invokevirtual 336, 3) := by decide +kernel
theorem dX11_years_121 : decode cX11_years 121 = .ok (.aload_n 0, 1) := by decide +kernel
theorem dX11_years_122 : decode cX11_years 122 = .ok (.aload_n 0, 1) := by decide +kernel
theorem dX11_years_123 : decode cX11_years 123 = .ok (.getfield 34, 3) := by decide +kernel
theorem dX11_years_126 : decode cX11_years 126 = .ok (.invokevirtual 351, 3) := by decide +kernel
theorem dX11_years_129 : decode cX11_years 129 = .ok (.iinc 3 1, 3) := by decide +kernel
theorem dX11_years_132 : decode cX11_years 132 = .ok (.goto 27, 3) := by decide +kernel
theorem dX11_years_135 : decode cX11_years 135 = .ok (.aload_n 0, 1) := by decide +kernel
theorem dX11_years_136 : decode cX11_years 136 = .ok (.getfield 128, 3) := by decide +kernel
theorem dX11_years_139 : decode cX11_years 139 = .ok (.ifCond .le 20, 3) := by decide +kernel
theorem dX11_years_142 : decode cX11_years 142 = .ok (.aload_n 0, 1) := by decide +kernel
theorem dX11_years_143 : decode cX11_years 143 = .ok (.aload_n 0, 1) := by decide +kernel
theorem dX11_years_144 : decode cX11_years 144 = .ok (.getfield 34, 3) := by decide +kernel
theorem dX11_years_147 : decode cX11_years 147 = .ok (.aload_n 0, 1) := by decide +kernel
theorem dX11_years_148 : decode cX11_years 148 = .ok (.aload_n 0, 1) := by decide +kernel
theorem dX11_years_149 : decode cX11_years 149 = .ok (.getfield 128, 3) := by decide +kernel
theorem dX11_years_152 : decode cX11_years 152 = .ok (.invokevirtual 447, 3) := by decide +kernel
theorem dX11_years_155 : decode cX11_years 155 = .ok (.invokevirtual 367, 3) := by decide +kernel
theorem dX11_years_158 : decode cX11_years 158 = .ok (.pop, 1) := by decide +kernel
theorem dX11_years_159 : decode cX11_years 159 = .ok (.iinc 4 1, 3) := by decide +kernel
theorem dX11_years_162 : decode cX11_years 162 = .ok (.goto (-129), 3) := by decide +kernel
theorem dX11_years_165 : decode cX11_years 165 = .ok (.aload_n 0, 1) := by decide +kernel
theorem dX11_years_166 : decode cX11_years 166 = .ok (.iconst 0, 1) := by decide +kernel
theorem dX11_years_167 : decode cX11_years 167 = .ok (.putfield 15, 3) := by decide +kernel
theorem dX11_years_170 : decode cX11_years 170 = .ok (.aload_n 0, 1) := by decide +kernel
theorem dX11_years_171 : decode cX11_years 171 = .ok (.aload_n 0, 1) := by decide +kernel
theorem dX11_years_172 : decode cX11_years 172 = .ok (.getfield 34, 3) := by decide +kernel
theorem dX11_years_175 : decode cX11_years 175 = .ok (.bipush 36, 2) := by decide +kernel
theorem dX11_years_177 : decode cX11_years 177 = .ok (.iaload, 1) := by decide +kernel
theorem dX11_years_178 : decode cX11_years 178 = .ok (.invokestatic 355, 3) := by decide +kernel
theorem dX11_years_181 : decode cX11_years 181 = .ok (.i2l, 1) := by decide +kernel
theorem dX11_years_182 : decode cX11_years 182 = .ok (.invokevirtual 340, 3) := by decide +kernel
theorem dX11_years_185 : decode cX11_years 185 = .ok (.aload_n 0, 1) := by decide +kernel
theorem dX11_years_186 : decode cX11_years 186 = .ok (.iload_n 3, 1) := by decide +kernel
theorem dX11_years_187 : decode cX11_years 187 = .ok (.i2l, 1) := by decide +kernel
theorem dX11_years_188 : decode cX11_years 188 = .ok (.invokevirtual 340, 3) := by decide +kernel
theorem dX11_years_191 : decode cX11_years 191 = .ok (.aload_n 0, 1) := by decide +kernel
theorem dX11_years_192 : decode cX11_years 192 = .ok (.aload_n 0, 1) := by decide +kernel
theorem dX11_years_193 : decode cX11_years 193 = .ok (.getfield 34, 3) := by decide +kernel
theorem dX11_years_196 : decode cX11_years 196 = .ok (.bipush 24, 2) := by decide +kernel
theorem dX11_years_198 : decode cX11_years 198 = .ok (.invokevirtual 316, 3) := by decide +kernel
theorem dX11_years_201 : decode cX11_years 201 = .ok (.ireturn, 1) := by decide +kernel
theorem dX11_keep_0 : decode cX11_keep 0 = .ok (.aload_n 0, 1) := by decide +kernel
theorem dX11_keep_1 : decode cX11_keep 1 = .ok (.iconst 0, 1) := by decide +kernel
theorem dX11_keep_2 : decode cX11_keep 2 = .ok (.putfield 3, 3) := by decide +kernel
theorem dX11_keep_5 : decode cX11_keep 5 = .ok (.iload_n 1, 1) := by decide +kernel
theorem dX11_keep_6 : decode cX11_keep 6 = .ok (.i2l, 1) := by decide +kernel
theorem dX11_keep_7 : decode cX11_keep 7 = .ok (.lconst 0, 1) := by decide +kernel
theorem dX11_keep_8 : decode cX11_keep 8 = .ok (.ldc2_w 300, 3) := by decide +kernel
theorem dX11_keep_11 : decode cX11_keep 11 = .ok (.invokestatic 131, 3) := by decide +kernel
theorem dX11_keep_14 : decode cX11_keep 14 = .ok (.ifCond .ne 5, 3) := by decide +kernel
theorem dX11_keep_17 : decode cX11_keep 17 = .ok (.iconst 0, 1) := by decide +kernel
theorem dX11_keep_18 : decode cX11_keep 18 = .ok (.ireturn, 1) := by decide +kernel
theorem dX11_keep_19 : decode cX11_keep 19 = .ok (.aload_n 0, 1) := by decide +kernel
theorem dX11_keep_20 : decode cX11_keep 20 = .ok (.getfield 119, 3) := by decide +kernel
theorem dX11_keep_23 : decode cX11_keep 23 = .ok (.iload_n 1, 1) := by decide +kernel
theorem dX11_keep_24 : decode cX11_keep 24 = .ok (.iconst 1, 1) := by decide +kernel
theorem dX11_keep_25 : decode cX11_keep 25 = .ok (.bastore, 1) := by decide +kernel
theorem dX11_keep_26 : decode cX11_keep 26 = .ok (.aload_n 0, 1) := by decide +kernel
theorem dX11_keep_27 : decode cX11_keep 27 = .ok (.getfield 122, 3) := by decide +kernel
theorem dX11_keep_30 : decode cX11_keep 30 = .ok (.iload_n 1, 1) := by decide +kernel
theorem dX11_keep_31 : decode cX11_keep 31 = .ok (.aload_n 0, 1) := by decide +kernel
theorem dX11_keep_32 : decode cX11_keep 32 = .ok (.getfield 209, 3) := by decide +kernel
theorem dX11_keep_35 : decode cX11_keep 35 = .ok (.iastore, 1) := by decide +kernel
theorem dX11_keep_36 : decode cX11_keep 36 = .ok (.iconst 0, 1) := by decide +kernel
theorem dX11_keep_37 : decode cX11_keep 37 = .ok (.istore_n 2, 1) := by decide +kernel
theorem dX11_keep_38 : decode cX11_keep 38 = .ok (.iload_n 2, 1) := by decide +kernel
theorem dX11_keep_39 : decode cX11_keep 39 = .ok (.bipush 39, 2) := by decide +kernel
theorem dX11_keep_41 : decode cX11_keep 41 = .ok (.if_icmp .ge 26, 3) := by decide +kernel
theorem dX11_keep_44 : decode cX11_keep 44 = .ok (.aload_n 0, 1) := by decide +kernel
theorem dX11_keep_45 : decode cX11_keep 45 = .ok (.getfield 125, 3) := by decide +kernel
theorem dX11_keep_48 : decode cX11_keep 48 = .ok (.bipush 39, 2) := by decide +kernel
theorem dX11_keep_50 : decode cX11_keep 50 = .ok (.iload_n 1, 1) := by decide +kernel
theorem dX11_keep_51 : decode cX11_keep 51 = .ok (.imul, 1) := by decide +kernel
theorem dX11_keep_52 : decode cX11_keep 52 = .ok (.iload_n 2, 1) := by decide +kernel
theorem dX11_keep_53 : decode cX11_keep 53 = .ok (.iadd, 1) := by decide +kernel
theorem dX11_keep_54 : decode cX11_keep 54 = .ok (.aload_n 0, 1) := by decide +kernel
theorem dX11_keep_55 : decode cX11_keep 55 = .ok (.getfield 31, 3) := by decide +kernel
theorem dX11_keep_58 : decode cX11_keep 58 = .ok (.iload_n 2, 1) := by decide +kernel
theorem dX11_keep_59 : decode cX11_keep 59 = .ok (.iaload, 1) := by decide +kernel
theorem dX11_keep_60 : decode cX11_keep 60 = .ok (.iastore, 1) := by decide +kernel
theorem dX11_keep_61 : decode cX11_keep 61 = .ok (.iinc 2 1, 3) := by decide +kernel
theorem dX11_keep_64 : decode cX11_keep 64 = .ok (.goto (-26), 3) := by decide +kernel
theorem dX11_keep_67 : decode cX11_keep 67 = .ok (.iconst 1, 1) := by decide +kernel
theorem dX11_keep_68 : decode cX11_keep 68 = .ok (.ireturn, 1) := by decide +kernel
theorem dX11_again_0 : decode cX11_again 0 = .ok (.aload_n 0, 1) := by decide +kernel
theorem dX11_again_1 : decode cX11_again 1 = .ok (.iconst 0, 1) := by decide +kernel
theorem dX11_again_2 : decode cX11_again 2 = .ok (.putfield 3, 3) := by decide +kernel
theorem dX11_again_5 : decode cX11_again 5 = .ok (.iload_n 1, 1) := by decide +kernel
theorem dX11_again_6 : decode cX11_again 6 = .ok (.i2l, 1) := by decide +kernel
theorem dX11_again_7 : decode cX11_again 7 = .ok (.lconst 0, 1) := by decide +kernel
theorem dX11_again_8 : decode cX11_again 8 = .ok (.ldc2_w 300, 3) := by decide +kernel
theorem dX11_again_11 : decode cX11_again 11 = .ok (.invokestatic 131, 3) := by decide +kernel
theorem dX11_again_14 : decode cX11_again 14 = .ok (.ifCond .eq 25, 3) := by decide +kernel
theorem dX11_again_17 : decode cX11_again 17 = .ok (.aload_n 0, 1) := by decide +kernel
theorem dX11_again_18 : decode cX11_again 18 = .ok (.getfield 119, 3) := by decide +kernel
theorem dX11_again_21 : decode cX11_again 21 = .ok (.iload_n 1, 1) := by decide +kernel
theorem dX11_again_22 : decode cX11_again 22 = .ok (.baload, 1) := by decide +kernel
theorem dX11_again_23 : decode cX11_again 23 = .ok (.ifCond .eq 16, 3) := by decide +kernel
theorem dX11_again_26 : decode cX11_again 26 = .ok (.aload_n 0, 1) := by decide +kernel
theorem dX11_again_27 : decode cX11_again 27 = .ok (.getfield 122, 3) := by decide +kernel
theorem dX11_again_30 : decode cX11_again 30 = .ok (.iload_n 1, 1) := by decide +kernel
theorem dX11_again_31 : decode cX11_again 31 = .ok (.iaload, 1) := by decide +kernel
theorem dX11_again_32 : decode cX11_again 32 = .ok (.aload_n 0, 1) := by decide +kernel
theorem dX11_again_33 : decode cX11_again 33 = .ok (.getfield 209, 3) := by decide +kernel
theorem dX11_again_36 : decode cX11_again 36 = .ok (.if_icmp .eq 5, 3) := by decide +kernel
theorem dX11_again_39 : decode cX11_again 39 = .ok (.iconst 0, 1) := by decide +kernel
theorem dX11_again_40 : decode cX11_again 40 = .ok (.ireturn, 1) := by decide +kernel
theorem dX11_again_41 : decode cX11_again 41 = .ok (.iconst 0, 1) := by decide +kernel
theorem dX11_again_42 : decode cX11_again 42 = .ok (.istore_n 2, 1) := by decide +kernel
theorem dX11_again_43 : decode cX11_again 43 = .ok (.iload_n 2, 1) := by decide +kernel
theorem dX11_again_44 : decode cX11_again 44 = .ok (.bipush 39, 2) := by decide +kernel
theorem dX11_again_46 : decode cX11_again 46 = .ok (.if_icmp .ge 26, 3) := by decide +kernel
theorem dX11_again_49 : decode cX11_again 49 = .ok (.aload_n 0, 1) := by decide +kernel
theorem dX11_again_50 : decode cX11_again 50 = .ok (.getfield 31, 3) := by decide +kernel
theorem dX11_again_53 : decode cX11_again 53 = .ok (.iload_n 2, 1) := by decide +kernel
theorem dX11_again_54 : decode cX11_again 54 = .ok (.aload_n 0, 1) := by decide +kernel
theorem dX11_again_55 : decode cX11_again 55 = .ok (.getfield 125, 3) := by decide +kernel
theorem dX11_again_58 : decode cX11_again 58 = .ok (.bipush 39, 2) := by decide +kernel
theorem dX11_again_60 : decode cX11_again 60 = .ok (.iload_n 1, 1) := by decide +kernel
theorem dX11_again_61 : decode cX11_again 61 = .ok (.imul, 1) := by decide +kernel
theorem dX11_again_62 : decode cX11_again 62 = .ok (.iload_n 2, 1) := by decide +kernel
theorem dX11_again_63 : decode cX11_again 63 = .ok (.iadd, 1) := by decide +kernel
theorem dX11_again_64 : decode cX11_again 64 = .ok (.iaload, 1) := by decide +kernel
theorem dX11_again_65 : decode cX11_again 65 = .ok (.iastore, 1) := by decide +kernel
theorem dX11_again_66 : decode cX11_again 66 = .ok (.iinc 2 1, 3) := by decide +kernel
theorem dX11_again_69 : decode cX11_again 69 = .ok (.goto (-26), 3) := by decide +kernel
theorem dX11_again_72 : decode cX11_again 72 = .ok (.aload_n 0, 1) := by decide +kernel
theorem dX11_again_73 : decode cX11_again 73 = .ok (.iconst 0, 1) := by decide +kernel
theorem dX11_again_74 : decode cX11_again 74 = .ok (.putfield 206, 3) := by decide +kernel
theorem dX11_again_77 : decode cX11_again 77 = .ok (.iconst 1, 1) := by decide +kernel
theorem dX11_again_78 : decode cX11_again 78 = .ok (.ireturn, 1) := by decide +kernel
theorem dX11_count_0 : decode cX11_count 0 = .ok (.aload_n 0, 1) := by decide +kernel
theorem dX11_count_1 : decode cX11_count 1 = .ok (.iconst 0, 1) := by decide +kernel
theorem dX11_count_2 : decode cX11_count 2 = .ok (.putfield 3, 3) := by decide +kernel
theorem dX11_count_5 : decode cX11_count 5 = .ok (.iload_n 1, 1) := by decide +kernel
theorem dX11_count_6 : decode cX11_count 6 = .ok (.tableswitch 136 0 10 #[58, 63, 74, 82, 90, 101, 111, 116, 121, 126, 131], 58) := by decide +kernel
theorem dX11_count_64 : decode cX11_count 64 = .ok (.aload_n 0, 1) := by decide +kernel
theorem dX11_count_65 : decode cX11_count 65 = .ok (.getfield 128, 3) := by decide +kernel
theorem dX11_count_68 : decode cX11_count 68 = .ok (.ireturn, 1) := by decide +kernel
theorem dX11_count_69 : decode cX11_count 69 = .ok (.aload_n 0, 1) := by decide +kernel
theorem dX11_count_70 : decode cX11_count 70 = .ok (.getfield 31, 3) := by decide +kernel
theorem dX11_count_73 : decode cX11_count 73 = .ok (.bipush 36, 2) := by decide +kernel
theorem dX11_count_75 : decode cX11_count 75 = .ok (.iaload, 1) := by decide +kernel
theorem dX11_count_76 : decode cX11_count 76 = .ok (.invokestatic 355, 3) := by decide +kernel
theorem dX11_count_79 : decode cX11_count 79 = .ok (.ireturn, 1) := by decide +kernel
theorem dX11_count_80 : decode cX11_count 80 = .ok (.aload_n 0, 1) := by decide +kernel
theorem dX11_count_81 : decode cX11_count 81 = .ok (.getfield 31, 3) := by decide +kernel
theorem dX11_count_84 : decode cX11_count 84 = .ok (.bipush 37, 2) := by decide +kernel
theorem dX11_count_86 : decode cX11_count 86 = .ok (.iaload, 1) := by decide +kernel
theorem dX11_count_87 : decode cX11_count 87 = .ok (.ireturn, 1) := by decide +kernel
theorem dX11_count_88 : decode cX11_count 88 = .ok (.aload_n 0, 1) := by decide +kernel
theorem dX11_count_89 : decode cX11_count 89 = .ok (.getfield 31, 3) := by decide +kernel
theorem dX11_count_92 : decode cX11_count 92 = .ok (.bipush 38, 2) := by decide +kernel
theorem dX11_count_94 : decode cX11_count 94 = .ok (.iaload, 1) := by decide +kernel
theorem dX11_count_95 : decode cX11_count 95 = .ok (.ireturn, 1) := by decide +kernel
theorem dX11_count_96 : decode cX11_count 96 = .ok (.aload_n 0, 1) := by decide +kernel
theorem dX11_count_97 : decode cX11_count 97 = .ok (.aload_n 0, 1) := by decide +kernel
theorem dX11_count_98 : decode cX11_count 98 = .ok (.getfield 31, 3) := by decide +kernel
theorem dX11_count_101 : decode cX11_count 101 = .ok (.bipush 24, 2) := by decide +kernel
theorem dX11_count_103 : decode cX11_count 103 = .ok (.invokevirtual 316, 3) := by decide +kernel
theorem dX11_count_106 : decode cX11_count 106 = .ok (.ireturn, 1) := by decide +kernel
theorem dX11_count_107 : decode cX11_count 107 = .ok (.aload_n 0, 1) := by decide +kernel
theorem dX11_count_108 : decode cX11_count 108 = .ok (.aload_n 0, 1) := by decide +kernel
theorem dX11_count_109 : decode cX11_count 109 = .ok (.getfield 31, 3) := by decide +kernel
theorem dX11_count_112 : decode cX11_count 112 = .ok (.iconst 0, 1) := by decide +kernel
theorem dX11_count_113 : decode cX11_count 113 = .ok (.invokevirtual 316, 3) := by decide +kernel
theorem dX11_count_116 : decode cX11_count 116 = .ok (.ireturn, 1) := by decide +kernel
theorem dX11_count_117 : decode cX11_count 117 = .ok (.aload_n 0, 1) := by decide +kernel
theorem dX11_count_118 : decode cX11_count 118 = .ok (.getfield 408, 3) := by decide +kernel
theorem dX11_count_121 : decode cX11_count 121 = .ok (.ireturn, 1) := by decide +kernel
theorem dX11_count_122 : decode cX11_count 122 = .ok (.aload_n 0, 1) := by decide +kernel
theorem dX11_count_123 : decode cX11_count 123 = .ok (.getfield 418, 3) := by decide +kernel
theorem dX11_count_126 : decode cX11_count 126 = .ok (.ireturn, 1) := by decide +kernel
theorem dX11_count_127 : decode cX11_count 127 = .ok (.aload_n 0, 1) := by decide +kernel
theorem dX11_count_128 : decode cX11_count 128 = .ok (.getfield 206, 3) := by decide +kernel
theorem dX11_count_131 : decode cX11_count 131 = .ok (.ireturn, 1) := by decide +kernel
theorem dX11_count_132 : decode cX11_count 132 = .ok (.aload_n 0, 1) := by decide +kernel
theorem dX11_count_133 : decode cX11_count 133 = .ok (.getfield 15, 3) := by decide +kernel
theorem dX11_count_136 : decode cX11_count 136 = .ok (.ireturn, 1) := by decide +kernel
theorem dX11_count_137 : decode cX11_count 137 = .ok (.aload_n 0, 1) := by decide +kernel
theorem dX11_count_138 : decode cX11_count 138 = .ok (.getfield 137, 3) := by decide +kernel
theorem dX11_count_141 : decode cX11_count 141 = .ok (.ireturn, 1) := by decide +kernel
theorem dX11_count_142 : decode cX11_count 142 = .ok (.bipush (-100), 2) := by decide +kernel
theorem dX11_count_144 : decode cX11_count 144 = .ok (.ireturn, 1) := by decide +kernel
theorem dX11_row_0 : decode cX11_row 0 = .ok (.aload_n 0, 1) := by decide +kernel
theorem dX11_row_1 : decode cX11_row 1 = .ok (.iconst 0, 1) := by decide +kernel
theorem dX11_row_2 : decode cX11_row 2 = .ok (.putfield 3, 3) := by decide +kernel
theorem dX11_row_5 : decode cX11_row 5 = .ok (.iload_n 1, 1) := by decide +kernel
theorem dX11_row_6 : decode cX11_row 6 = .ok (.i2l, 1) := by decide +kernel
theorem dX11_row_7 : decode cX11_row 7 = .ok (.lconst 0, 1) := by decide +kernel
theorem dX11_row_8 : decode cX11_row 8 = .ok (.aload_n 0, 1) := by decide +kernel
theorem dX11_row_9 : decode cX11_row 9 = .ok (.getfield 15, 3) := by decide +kernel
theorem dX11_row_12 : decode cX11_row 12 = .ok (.iconst 1, 1) := by decide +kernel
theorem dX11_row_13 : decode cX11_row 13 = .ok (.isub, 1) := by decide +kernel
theorem dX11_row_14 : decode cX11_row 14 = .ok (.i2l, 1) := by decide +kernel
theorem dX11_row_15 : decode cX11_row 15 = .ok (.invokestatic 131, 3) := by decide +kernel
theorem dX11_row_18 : decode cX11_row 18 = .ok (.ifCond .ne 10, 3) := by decide +kernel
theorem dX11_row_21 : decode cX11_row 21 = .ok (.aload_n 0, 1) := by decide +kernel
theorem dX11_row_22 : decode cX11_row 22 = .ok (.iconst 1, 1) := by decide +kernel
theorem dX11_row_23 : decode cX11_row 23 = .ok (.putfield 3, 3) := by decide +kernel
theorem dX11_row_26 : decode cX11_row 26 = .ok (.lconst 0, 1) := by decide +kernel
theorem dX11_row_27 : decode cX11_row 27 = .ok (.lreturn, 1) := by decide +kernel
theorem dX11_row_28 : decode cX11_row 28 = .ok (.aload_n 0, 1) := by decide +kernel
theorem dX11_row_29 : decode cX11_row 29 = .ok (.getfield 11, 3) := by decide +kernel
theorem dX11_row_32 : decode cX11_row 32 = .ok (.iload_n 1, 1) := by decide +kernel
theorem dX11_row_33 : decode cX11_row 33 = .ok (.laload, 1) := by decide +kernel
theorem dX11_row_34 : decode cX11_row 34 = .ok (.lreturn, 1) := by decide +kernel
