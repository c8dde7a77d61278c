theorem dX11_init_0 : decode cX11_init 0 = .ok (.aload_n 0, 1) := by decide +kernel
theorem dX11_init_1 : decode cX11_init 1 = .ok (.invokespecial 1, 3) := by decide +kernel
theorem dX11_init_4 : decode cX11_init 4 = .ok (.aload_n 0, 1) := by decide +kernel
theorem dX11_init_5 : decode cX11_init 5 = .ok (.iconst (-1), 1) := by decide +kernel
theorem dX11_init_6 : decode cX11_init 6 = .ok (.putfield 9, 3) := by decide +kernel
theorem dX11_init_9 : decode cX11_init 9 = .ok (.aload_n 0, 1) := by decide +kernel
theorem dX11_init_10 : decode cX11_init 10 = .ok (.bipush 24, 2) := by decide +kernel
theorem dX11_init_12 : decode cX11_init 12 = .ok (.newarray .int, 2) := by decide +kernel
theorem dX11_init_14 : decode cX11_init 14 = .ok (.putfield 13, 3) := by decide +kernel
theorem dX11_init_17 : decode cX11_init 17 = .ok (.aload_n 0, 1) := by decide +kernel
theorem dX11_init_18 : decode cX11_init 18 = .ok (.bipush 24, 2) := by decide +kernel
theorem dX11_init_20 : decode cX11_init 20 = .ok (.newarray .int, 2) := by decide +kernel
theorem dX11_init_22 : decode cX11_init 22 = .ok (.putfield 17, 3) := by decide +kernel
theorem dX11_init_25 : decode cX11_init 25 = .ok (.aload_n 0, 1) := by decide +kernel
theorem dX11_init_26 : decode cX11_init 26 = .ok (.bipush 24, 2) := by decide +kernel
theorem dX11_init_28 : decode cX11_init 28 = .ok (.newarray .int, 2) := by decide +kernel
theorem dX11_init_30 : decode cX11_init 30 = .ok (.putfield 20, 3) := by decide +kernel
theorem dX11_init_33 : decode cX11_init 33 = .ok (.aload_n 0, 1) := by decide +kernel
theorem dX11_init_34 : decode cX11_init 34 = .ok (.bipush 24, 2) := by decide +kernel
theorem dX11_init_36 : decode cX11_init 36 = .ok (.newarray .int, 2) := by decide +kernel
theorem dX11_init_38 : decode cX11_init 38 = .ok (.putfield 23, 3) := by decide +kernel
theorem dX11_init_41 : decode cX11_init 41 = .ok (.aload_n 0, 1) := by decide +kernel
theorem dX11_init_42 : decode cX11_init 42 = .ok (.bipush 24, 2) := by decide +kernel
theorem dX11_init_44 : decode cX11_init 44 = .ok (.newarray .int, 2) := by decide +kernel
theorem dX11_init_46 : decode cX11_init 46 = .ok (.putfield 26, 3) := by decide +kernel
theorem dX11_init_49 : decode cX11_init 49 = .ok (.aload_n 0, 1) := by decide +kernel
theorem dX11_init_50 : decode cX11_init 50 = .ok (.bipush 24, 2) := by decide +kernel
theorem dX11_init_52 : decode cX11_init 52 = .ok (.newarray .int, 2) := by decide +kernel
theorem dX11_init_54 : decode cX11_init 54 = .ok (.putfield 29, 3) := by decide +kernel
theorem dX11_init_57 : decode cX11_init 57 = .ok (.aload_n 0, 1) := by decide +kernel
theorem dX11_init_58 : decode cX11_init 58 = .ok (.bipush 24, 2) := by decide +kernel
theorem dX11_init_60 : decode cX11_init 60 = .ok (.newarray .int, 2) := by decide +kernel
theorem dX11_init_62 : decode cX11_init 62 = .ok (.putfield 32, 3) := by decide +kernel
theorem dX11_init_65 : decode cX11_init 65 = .ok (.aload_n 0, 1) := by decide +kernel
theorem dX11_init_66 : decode cX11_init 66 = .ok (.bipush 24, 2) := by decide +kernel
theorem dX11_init_68 : decode cX11_init 68 = .ok (.newarray .boolean, 2) := by decide +kernel
theorem dX11_init_70 : decode cX11_init 70 = .ok (.putfield 35, 3) := by decide +kernel
theorem dX11_init_73 : decode cX11_init 73 = .ok (.aload_n 0, 1) := by decide +kernel
theorem dX11_init_74 : decode cX11_init 74 = .ok (.sipush 400, 3) := by decide +kernel
theorem dX11_init_77 : decode cX11_init 77 = .ok (.newarray .int, 2) := by decide +kernel
theorem dX11_init_79 : decode cX11_init 79 = .ok (.putfield 39, 3) := by decide +kernel
theorem dX11_init_82 : decode cX11_init 82 = .ok (.aload_n 0, 1) := by decide +kernel
theorem dX11_init_83 : decode cX11_init 83 = .ok (.iconst (-1), 1) := by decide +kernel
theorem dX11_init_84 : decode cX11_init 84 = .ok (.putfield 42, 3) := by decide +kernel
theorem dX11_init_87 : decode cX11_init 87 = .ok (.aload_n 0, 1) := by decide +kernel
theorem dX11_init_88 : decode cX11_init 88 = .ok (.sipush 168, 3) := by decide +kernel
theorem dX11_init_91 : decode cX11_init 91 = .ok (.newarray .int, 2) := by decide +kernel
theorem dX11_init_93 : decode cX11_init 93 = .ok (.putfield 45, 3) := by decide +kernel
theorem dX11_init_96 : decode cX11_init 96 = .ok (.aload_n 0, 1) := by decide +kernel
theorem dX11_init_97 : decode cX11_init 97 = .ok (.bipush 8, 2) := by decide +kernel
theorem dX11_init_99 : decode cX11_init 99 = .ok (.newarray .int, 2) := by decide +kernel
theorem dX11_init_101 : decode cX11_init 101 = .ok (.putfield 48, 3) := by decide +kernel
theorem dX11_init_104 : decode cX11_init 104 = .ok (.aload_n 0, 1) := by decide +kernel
theorem dX11_init_105 : decode cX11_init 105 = .ok (.bipush 8, 2) := by decide +kernel
theorem dX11_init_107 : decode cX11_init 107 = .ok (.newarray .boolean, 2) := by decide +kernel
theorem dX11_init_109 : decode cX11_init 109 = .ok (.putfield 51, 3) := by decide +kernel
theorem dX11_init_112 : decode cX11_init 112 = .ok (.aload_n 0, 1) := by decide +kernel
theorem dX11_init_113 : decode cX11_init 113 = .ok (.bipush 8, 2) := by decide +kernel
theorem dX11_init_115 : decode cX11_init 115 = .ok (.newarray .boolean, 2) := by decide +kernel
theorem dX11_init_117 : decode cX11_init 117 = .ok (.putfield 54, 3) := by decide +kernel
theorem dX11_init_120 : decode cX11_init 120 = .ok (.aload_n 0, 1) := by decide +kernel
theorem dX11_init_121 : decode cX11_init 121 = .ok (.iconst 4, 1) := by decide +kernel
theorem dX11_init_122 : decode cX11_init 122 = .ok (.newarray .int, 2) := by decide +kernel
theorem dX11_init_124 : decode cX11_init 124 = .ok (.putfield 57, 3) := by decide +kernel
theorem dX11_init_127 : decode cX11_init 127 = .ok (.aload_n 0, 1) := by decide +kernel
theorem dX11_init_128 : decode cX11_init 128 = .ok (.iconst 4, 1) := by decide +kernel
theorem dX11_init_129 : decode cX11_init 129 = .ok (.newarray .int, 2) := by decide +kernel
theorem dX11_init_131 : decode cX11_init 131 = .ok (.putfield 60, 3) := by decide +kernel
theorem dX11_init_134 : decode cX11_init 134 = .ok (.aload_n 0, 1) := by decide +kernel
theorem dX11_init_135 : decode cX11_init 135 = .ok (.iconst (-1), 1) := by decide +kernel
theorem dX11_init_136 : decode cX11_init 136 = .ok (.putfield 63, 3) := by decide +kernel
theorem dX11_init_139 : decode cX11_init 139 = .ok (.aload_n 0, 1) := by decide +kernel
theorem dX11_init_140 : decode cX11_init 140 = .ok (.bipush 12, 2) := by decide +kernel
theorem dX11_init_142 : decode cX11_init 142 = .ok (.newarray .int, 2) := by decide +kernel
theorem dX11_init_144 : decode cX11_init 144 = .ok (.putfield 66, 3) := by decide +kernel
theorem dX11_init_147 : decode cX11_init 147 = .ok (.aload_n 0, 1) := by decide +kernel
theorem dX11_init_148 : decode cX11_init 148 = .ok (.sipush 2928, 3) := by decide +kernel
theorem dX11_init_151 : decode cX11_init 151 = .ok (.newarray .int, 2) := by decide +kernel
theorem dX11_init_153 : decode cX11_init 153 = .ok (.putfield 69, 3) := by decide +kernel
theorem dX11_init_156 : decode cX11_init 156 = .ok (.aload_n 0, 1) := by decide +kernel
theorem dX11_init_157 : decode cX11_init 157 = .ok (.sipush 732, 3) := by decide +kernel
theorem dX11_init_160 : decode cX11_init 160 = .ok (.newarray .int, 2) := by decide +kernel
theorem dX11_init_162 : decode cX11_init 162 = .ok (.putfield 72, 3) := by decide +kernel
theorem dX11_init_165 : decode cX11_init 165 = .ok (.aload_n 0, 1) := by decide +kernel
theorem dX11_init_166 : decode cX11_init 166 = .ok (.bipush 61, 2) := by decide +kernel
theorem dX11_init_168 : decode cX11_init 168 = .ok (.newarray .int, 2) := by decide +kernel
theorem dX11_init_170 : decode cX11_init 170 = .ok (.putfield 75, 3) := by decide +kernel
theorem dX11_init_173 : decode cX11_init 173 = .ok (.aload_n 0, 1) := by decide +kernel
theorem dX11_init_174 : decode cX11_init 174 = .ok (.bipush 12, 2) := by decide +kernel
theorem dX11_init_176 : decode cX11_init 176 = .ok (.newarray .int, 2) := by decide +kernel
theorem dX11_init_178 : decode cX11_init 178 = .ok (.putfield 78, 3) := by decide +kernel
theorem dX11_init_181 : decode cX11_init 181 = .ok (.aload_n 0, 1) := by decide +kernel
theorem dX11_init_182 : decode cX11_init 182 = .ok (.sipush 732, 3) := by decide +kernel
theorem dX11_init_185 : decode cX11_init 185 = .ok (.newarray .boolean, 2) := by decide +kernel
theorem dX11_init_187 : decode cX11_init 187 = .ok (.putfield 81, 3) := by decide +kernel
theorem dX11_init_190 : decode cX11_init 190 = .ok (.aload_n 0, 1) := by decide +kernel
theorem dX11_init_191 : decode cX11_init 191 = .ok (.sipush 732, 3) := by decide +kernel
theorem dX11_init_194 : decode cX11_init 194 = .ok (.newarray .int, 2) := by decide +kernel
theorem dX11_init_196 : decode cX11_init 196 = .ok (.putfield 84, 3) := by decide +kernel
theorem dX11_init_199 : decode cX11_init 199 = .ok (.aload_n 0, 1) := by decide +kernel
theorem dX11_init_200 : decode cX11_init 200 = .ok (.sipush 732, 3) := by decide +kernel
theorem dX11_init_203 : decode cX11_init 203 = .ok (.newarray .int, 2) := by decide +kernel
theorem dX11_init_205 : decode cX11_init 205 = .ok (.putfield 87, 3) := by decide +kernel
theorem dX11_init_208 : decode cX11_init 208 = .ok (.aload_n 0, 1) := by decide +kernel
theorem dX11_init_209 : decode cX11_init 209 = .ok (.sipush 732, 3) := by decide +kernel
theorem dX11_init_212 : decode cX11_init 212 = .ok (.newarray .int, 2) := by decide +kernel
theorem dX11_init_214 : decode cX11_init 214 = .ok (.putfield 90, 3) := by decide +kernel
theorem dX11_init_217 : decode cX11_init 217 = .ok (.aload_n 0, 1) := by decide +kernel
theorem dX11_init_218 : decode cX11_init 218 = .ok (.bipush 8, 2) := by decide +kernel
theorem dX11_init_220 : decode cX11_init 220 = .ok (.newarray .int, 2) := by decide +kernel
theorem dX11_init_222 : decode cX11_init 222 = .ok (.putfield 93, 3) := by decide +kernel
theorem dX11_init_225 : decode cX11_init 225 = .ok (.aload_n 0, 1) := by decide +kernel
theorem dX11_init_226 : decode cX11_init 226 = .ok (.bipush 24, 2) := by decide +kernel
theorem dX11_init_228 : decode cX11_init 228 = .ok (.newarray .int, 2) := by decide +kernel
theorem dX11_init_230 : decode cX11_init 230 = .ok (.putfield 96, 3) := by decide +kernel
theorem dX11_init_233 : decode cX11_init 233 = .ok (.aload_n 0, 1) := by decide +kernel
theorem dX11_init_234 : decode cX11_init 234 = .ok (.bipush 6, 2) := by decide +kernel
theorem dX11_init_236 : decode cX11_init 236 = .ok (.newarray .int, 2) := by decide +kernel
theorem dX11_init_238 : decode cX11_init 238 = .ok (.putfield 99, 3) := by decide +kernel
theorem dX11_init_241 : decode cX11_init 241 = .ok (.aload_n 0, 1) := by decide +kernel
theorem dX11_init_242 : decode cX11_init 242 = .ok (.sipush 4096, 3) := by decide +kernel
theorem dX11_init_245 : decode cX11_init 245 = .ok (.newarray .int, 2) := by decide +kernel
theorem dX11_init_247 : decode cX11_init 247 = .ok (.putfield 102, 3) := by decide +kernel
theorem dX11_init_250 : decode cX11_init 250 = .ok (.aload_n 0, 1) := by decide +kernel
theorem dX11_init_251 : decode cX11_init 251 = .ok (.sipush 4096, 3) := by decide +kernel
theorem dX11_init_254 : decode cX11_init 254 = .ok (.newarray .int, 2) := by decide +kernel
theorem dX11_init_256 : decode cX11_init 256 = .ok (.putfield 105, 3) := by decide +kernel
theorem dX11_init_259 : decode cX11_init 259 = .ok (.aload_n 0, 1) := by decide +kernel
theorem dX11_init_260 : decode cX11_init 260 = .ok (.bipush 12, 2) := by decide +kernel
theorem dX11_init_262 : decode cX11_init 262 = .ok (.newarray .int, 2) := by decide +kernel
theorem dX11_init_264 : decode cX11_init 264 = .ok (.putfield 108, 3) := by decide +kernel
theorem dX11_init_267 : decode cX11_init 267 = .ok (.aload_n 0, 1) := by decide +kernel
theorem dX11_init_268 : decode cX11_init 268 = .ok (.bipush 8, 2) := by decide +kernel
theorem dX11_init_270 : decode cX11_init 270 = .ok (.newarray .int, 2) := by decide +kernel
theorem dX11_init_272 : decode cX11_init 272 = .ok (.putfield 111, 3) := by decide +kernel
theorem dX11_init_275 : decode cX11_init 275 = .ok (.aload_n 0, 1) := by decide +kernel
theorem dX11_init_276 : decode cX11_init 276 = .ok (.bipush 8, 2) := by decide +kernel
theorem dX11_init_278 : decode cX11_init 278 = .ok (.newarray .int, 2) := by decide +kernel
theorem dX11_init_280 : decode cX11_init 280 = .ok (.putfield 114, 3) := by decide +kernel
theorem dX11_init_283 : decode cX11_init 283 = .ok (.aload_n 0, 1) := by decide +kernel
theorem dX11_init_284 : decode cX11_init 284 = .ok (.bipush 8, 2) := by decide +kernel
theorem dX11_init_286 : decode cX11_init 286 = .ok (.newarray .long, 2) := by decide +kernel
theorem dX11_init_288 : decode cX11_init 288 = .ok (.putfield 117, 3) := by decide +kernel
theorem dX11_init_291 : decode cX11_init 291 = .ok (.aload_n 0, 1) := by decide +kernel
theorem dX11_init_292 : decode cX11_init 292 = .ok (.bipush 8, 2) := by decide +kernel
theorem dX11_init_294 : decode cX11_init 294 = .ok (.newarray .int, 2) := by decide +kernel
theorem dX11_init_296 : decode cX11_init 296 = .ok (.putfield 121, 3) := by decide +kernel
theorem dX11_init_299 : decode cX11_init 299 = .ok (.aload_n 0, 1) := by decide +kernel
theorem dX11_init_300 : decode cX11_init 300 = .ok (.bipush 12, 2) := by decide +kernel
theorem dX11_init_302 : decode cX11_init 302 = .ok (.newarray .int, 2) := by decide +kernel
theorem dX11_init_304 : decode cX11_init 304 = .ok (.putfield 124, 3) := by decide +kernel
theorem dX11_init_307 : decode cX11_init 307 = .ok (.aload_n 0, 1) := by decide +kernel
theorem dX11_init_308 : decode cX11_init 308 = .ok (.bipush 120, 2) := by decide +kernel
theorem dX11_init_310 : decode cX11_init 310 = .ok (.newarray .int, 2) := by decide +kernel
theorem dX11_init_312 : decode cX11_init 312 = .ok (.putfield 127, 3) := by decide +kernel
theorem dX11_init_315 : decode cX11_init 315 = .ok (.aload_n 0, 1) := by decide +kernel
theorem dX11_init_316 : decode cX11_init 316 = .ok (.iconst 2, 1) := by decide +kernel
theorem dX11_init_317 : decode cX11_init 317 = .ok (.newarray .boolean, 2) := by decide +kernel
theorem dX11_init_319 : decode cX11_init 319 = .ok (.putfield 130, 3) := by decide +kernel
theorem dX11_init_322 : decode cX11_init 322 = .ok (.aload_n 0, 1) := by decide +kernel
theorem dX11_init_323 : decode cX11_init 323 = .ok (.iconst 0, 1) := by decide +kernel
theorem dX11_init_324 : decode cX11_init 324 = .ok (.putfield 133, 3) := by decide +kernel
theorem dX11_init_327 : decode cX11_init 327 = .ok (.return_, 1) := by decide +kernel
theorem dX11_in_0 : decode cX11_in 0 = .ok (.lload_n 0, 1) := by decide +kernel
theorem dX11_in_1 : decode cX11_in 1 = .ok (.lload_n 2, 1) := by decide +kernel
theorem dX11_in_2 : decode cX11_in 2 = .ok (.lcmp, 1) := by decide +kernel
theorem dX11_in_3 : decode cX11_in 3 = .ok (.ifCond .lt 14, 3) := by decide +kernel
theorem dX11_in_6 : decode cX11_in 6 = .ok (.lload_n 0, 1) := by decide +kernel
theorem dX11_in_7 : decode cX11_in 7 = .ok (.lload 4, 2) := by decide +kernel
theorem dX11_in_9 : decode cX11_in 9 = .ok (.lcmp, 1) := by decide +kernel
theorem dX11_in_10 : decode cX11_in 10 = .ok (.ifCond .gt 7, 3) := by decide +kernel
theorem dX11_in_13 : decode cX11_in 13 = .ok (.iconst 1, 1) := by decide +kernel
theorem dX11_in_14 : decode cX11_in 14 = .ok (.goto 4, 3) := by decide +kernel
theorem dX11_in_17 : decode cX11_in 17 = .ok (.iconst 0, 1) := by decide +kernel
theorem dX11_in_18 : decode cX11_in 18 = .ok (.ireturn, 1) := by decide +kernel
theorem dX11_has_0 : decode cX11_has 0 = .ok (.iload_n 0, 1) := by decide +kernel
theorem dX11_has_1 : decode cX11_has 1 = .ok (.iload_n 1, 1) := by decide +kernel
theorem dX11_has_2 : decode cX11_has 2 = .ok (.ishr, 1) := by decide +kernel
theorem dX11_has_3 : decode cX11_has 3 = .ok (.iconst 1, 1) := by decide +kernel
theorem dX11_has_4 : decode cX11_has 4 = .ok (.iand, 1) := by decide +kernel
theorem dX11_has_5 : decode cX11_has 5 = .ok (.iconst 1, 1) := by decide +kernel
theorem dX11_has_6 : decode cX11_has 6 = .ok (.if_icmp .ne 7, 3) := by decide +kernel
theorem dX11_has_9 : decode cX11_has 9 = .ok (.iconst 1, 1) := by decide +kernel
theorem dX11_has_10 : decode cX11_has 10 = .ok (.goto 4, 3) := by decide +kernel
theorem dX11_has_13 : decode cX11_has 13 = .ok (.iconst 0, 1) := by decide +kernel
theorem dX11_has_14 : decode cX11_has 14 = .ok (.ireturn, 1) := by decide +kernel
theorem dX11_isPlace_0 : decode cX11_isPlace 0 = .ok (.iload_n 1, 1) := by decide +kernel
theorem dX11_isPlace_1 : decode cX11_isPlace 1 = .ok (.i2l, 1) := by decide +kernel
theorem dX11_isPlace_2 : decode cX11_isPlace 2 = .ok (.lconst 0, 1) := by decide +kernel
theorem dX11_isPlace_3 : decode cX11_isPlace 3 = .ok (.aload_n 0, 1) := by decide +kernel
theorem dX11_isPlace_4 : decode cX11_isPlace 4 = .ok (.getfield 133, 3) := by decide +kernel
theorem dX11_isPlace_7 : decode cX11_isPlace 7 = .ok (.iconst 1, 1) := by decide +kernel
theorem dX11_isPlace_8 : decode cX11_isPlace 8 = .ok (.isub, 1) := by decide +kernel
theorem dX11_isPlace_9 : decode cX11_isPlace 9 = .ok (.i2l, 1) := by decide +kernel
theorem dX11_isPlace_10 : decode cX11_isPlace 10 = .ok (.invokestatic 136, 3) := by decide +kernel
theorem dX11_isPlace_13 : decode cX11_isPlace 13 = .ok (.ireturn, 1) := by decide +kernel
theorem dX11_isWay_0 : decode cX11_isWay 0 = .ok (.iload_n 1, 1) := by decide +kernel
theorem dX11_isWay_1 : decode cX11_isWay 1 = .ok (.i2l, 1) := by decide +kernel
theorem dX11_isWay_2 : decode cX11_isWay 2 = .ok (.lconst 0, 1) := by decide +kernel
theorem dX11_isWay_3 : decode cX11_isWay 3 = .ok (.aload_n 0, 1) := by decide +kernel
theorem dX11_isWay_4 : decode cX11_isWay 4 = .ok (.getfield 140, 3) := by decide +kernel
theorem dX11_isWay_7 : decode cX11_isWay 7 = .ok (.iconst 1, 1) := by decide +kernel
theorem dX11_isWay_8 : decode cX11_isWay 8 = .ok (.isub, 1) := by decide +kernel
theorem dX11_isWay_9 : decode cX11_isWay 9 = .ok (.i2l, 1) := by decide +kernel
theorem dX11_isWay_10 : decode cX11_isWay 10 = .ok (.invokestatic 136, 3) := by decide +kernel
theorem dX11_isWay_13 : decode cX11_isWay 13 = .ok (.ireturn, 1) := by decide +kernel
theorem dX11_feed_0 : decode cX11_feed 0 = .ok (.iload_n 1, 1) := by decide +kernel
theorem dX11_feed_1 : decode cX11_feed 1 = .ok (.i2l, 1) := by decide +kernel
theorem dX11_feed_2 : decode cX11_feed 2 = .ok (.lconst 1, 1) := by decide +kernel
theorem dX11_feed_3 : decode cX11_feed 3 = .ok (.ldc2_w 143, 3) := by decide +kernel
theorem dX11_feed_6 : decode cX11_feed 6 = .ok (.invokestatic 136, 3) := by decide +kernel
theorem dX11_feed_9 : decode cX11_feed 9 = .ok (.ifCond .ne 7, 3) := by decide +kernel
theorem dX11_feed_12 : decode cX11_feed 12 = .ok (.sipush (-1002), 3) := by decide +kernel
theorem dX11_feed_15 : decode cX11_feed 15 = .ok (.ireturn, 1) := by decide +kernel
theorem dX11_feed_16 : decode cX11_feed 16 = .ok (.aload_n 0, 1) := by decide +kernel
theorem dX11_feed_17 : decode cX11_feed 17 = .ok (.getfield 145, 3) := by decide +kernel
theorem dX11_feed_20 : decode cX11_feed 20 = .ok (.iload_n 1, 1) := by decide +kernel
theorem dX11_feed_21 : decode cX11_feed 21 = .ok (.iadd, 1) := by decide +kernel
theorem dX11_feed_22 : decode cX11_feed 22 = .ok (.sipush 400, 3) := by decide +kernel
theorem dX11_feed_25 : decode cX11_feed 25 = .ok (.if_icmp .le 7, 3) := by decide +kernel
theorem dX11_feed_28 : decode cX11_feed 28 = .ok (.sipush (-1004), 3) := by decide +kernel
theorem dX11_feed_31 : decode cX11_feed 31 = .ok (.ireturn, 1) := by decide +kernel
theorem dX11_feed_32 : decode cX11_feed 32 = .ok (.iload_n 1, 1) := by decide +kernel
theorem dX11_feed_33 : decode cX11_feed 33 = .ok (.iconst 1, 1) := by decide +kernel
theorem dX11_feed_34 : decode cX11_feed 34 = .ok (.isub, 1) := by decide +kernel
theorem dX11_feed_35 : decode cX11_feed 35 = .ok (.istore 4, 2) := by decide +kernel
theorem dX11_feed_37 : decode cX11_feed 37 = .ok (.iload 4, 2) := by decide +kernel
theorem dX11_feed_39 : decode cX11_feed 39 = .ok (.ifCond .lt 40, 3) := by decide +kernel
theorem dX11_feed_42 : decode cX11_feed 42 = .ok (.aload_n 0, 1) := by decide +kernel
theorem dX11_feed_43 : decode cX11_feed 43 = .ok (.getfield 39, 3) := by decide +kernel
theorem dX11_feed_46 : decode cX11_feed 46 = .ok (.aload_n 0, 1) := by decide +kernel
theorem dX11_feed_47 : decode cX11_feed 47 = .ok (.getfield 145, 3) := by decide +kernel
theorem dX11_feed_50 : decode cX11_feed 50 = .ok (.lload_n 2, 1) := by decide +kernel
theorem dX11_feed_51 : decode cX11_feed 51 = .ok (.bipush 8, 2) := by decide +kernel
theorem dX11_feed_53 : decode cX11_feed 53 = .ok (.iload 4, 2) := by decide +kernel
theorem dX11_feed_55 : decode cX11_feed 55 = .ok (.imul, 1) := by decide +kernel
theorem dX11_feed_56 : decode cX11_feed 56 = .ok (.lshr, 1) := by decide +kernel
theorem dX11_feed_57 : decode cX11_feed 57 = .ok (.ldc2_w 148, 3) := by decide +kernel
theorem dX11_feed_60 : decode cX11_feed 60 = .ok (.land, 1) := by decide +kernel
theorem dX11_feed_61 : decode cX11_feed 61 = .ok (.l2i, 1) := by decide +kernel
theorem dX11_feed_62 : decode cX11_feed 62 = .ok (.iastore, 1) := by decide +kernel
theorem dX11_feed_63 : decode cX11_feed 63 = .ok (.aload_n 0, 1) := by decide +kernel
theorem dX11_feed_64 : decode cX11_feed 64 = .ok (.dup, 1) := by decide +kernel
theorem dX11_feed_65 : decode cX11_feed 65 = .ok (.getfield 145, 3) := by decide +kernel
theorem dX11_feed_68 : decode cX11_feed 68 = .ok (.iconst 1, 1) := by decide +kernel
theorem dX11_feed_69 : decode cX11_feed 69 = .ok (.iadd, 1) := by decide +kernel
theorem dX11_feed_70 : decode cX11_feed 70 = .ok (.putfield 145, 3) := by decide +kernel
theorem dX11_feed_73 : decode cX11_feed 73 = .ok (.iinc 4 (-1), 3) := by decide +kernel
theorem dX11_feed_76 : decode cX11_feed 76 = .ok (.goto (-39), 3) := by decide +kernel
theorem dX11_feed_79 : decode cX11_feed 79 = .ok (.aload_n 0, 1) := by decide +kernel
theorem dX11_feed_80 : decode cX11_feed 80 = .ok (.getfield 145, 3) := by decide +kernel
theorem dX11_feed_83 : decode cX11_feed 83 = .ok (.ireturn, 1) := by decide +kernel
theorem dX11_here_0 : decode cX11_here 0 = .ok (.aload_n 0, 1) := by decide +kernel
theorem dX11_here_1 : decode cX11_here 1 = .ok (.getfield 150, 3) := by decide +kernel
theorem dX11_here_4 : decode cX11_here 4 = .ok (.aload_n 0, 1) := by decide +kernel
theorem dX11_here_5 : decode cX11_here 5 = .ok (.getfield 145, 3) := by decide +kernel
theorem dX11_here_8 : decode cX11_here 8 = .ok (.if_icmp .ge 30, 3) := by decide +kernel
theorem dX11_here_11 : decode cX11_here 11 = .ok (.aload_n 0, 1) := by decide +kernel
theorem dX11_here_12 : decode cX11_here 12 = .ok (.getfield 39, 3) := by decide +kernel
theorem dX11_here_15 : decode cX11_here 15 = .ok (.aload_n 0, 1) := by decide +kernel
theorem dX11_here_16 : decode cX11_here 16 = .ok (.getfield 150, 3) := by decide +kernel
theorem dX11_here_19 : decode cX11_here 19 = .ok (.iaload, 1) := by decide +kernel
theorem dX11_here_20 : decode cX11_here 20 = .ok (.bipush 32, 2) := by decide +kernel
theorem dX11_here_22 : decode cX11_here 22 = .ok (.if_icmp .ne 16, 3) := by decide +kernel
theorem dX11_here_25 : decode cX11_here 25 = .ok (.aload_n 0, 1) := by decide +kernel
theorem dX11_here_26 : decode cX11_here 26 = .ok (.dup, 1) := by decide +kernel
theorem dX11_here_27 : decode cX11_here 27 = .ok (.getfield 150, 3) := by decide +kernel
theorem dX11_here_30 : decode cX11_here 30 = .ok (.iconst 1, 1) := by decide +kernel
theorem dX11_here_31 : decode cX11_here 31 = .ok (.iadd, 1) := by decide +kernel
theorem dX11_here_32 : decode cX11_here 32 = .ok (.putfield 150, 3) := by decide +kernel
theorem dX11_here_35 : decode cX11_here 35 = .ok (.goto (-35), 3) := by decide +kernel
theorem dX11_here_38 : decode cX11_here 38 = .ok (.aload_n 0, 1) := by decide +kernel
theorem dX11_here_39 : decode cX11_here 39 = .ok (.getfield 150, 3) := by decide +kernel
theorem dX11_here_42 : decode cX11_here 42 = .ok (.aload_n 0, 1) := by decide +kernel
theorem dX11_here_43 : decode cX11_here 43 = .ok (.getfield 145, 3) := by decide +kernel
theorem dX11_here_46 : decode cX11_here 46 = .ok (.if_icmp .ge 15, 3) := by decide +kernel
theorem dX11_here_49 : decode cX11_here 49 = .ok (.aload_n 0, 1) := by decide +kernel
theorem dX11_here_50 : decode cX11_here 50 = .ok (.getfield 39, 3) := by decide +kernel
theorem dX11_here_53 : decode cX11_here 53 = .ok (.aload_n 0, 1) := by decide +kernel
theorem dX11_here_54 : decode cX11_here 54 = .ok (.getfield 150, 3) := by decide +kernel
theorem dX11_here_57 : decode cX11_here 57 = .ok (.iaload, 1) := by decide +kernel
theorem dX11_here_58 : decode cX11_here 58 = .ok (.goto 4, 3) := by decide +kernel
theorem dX11_here_61 : decode cX11_here 61 = .ok (.iconst (-1), 1) := by decide +kernel
theorem dX11_here_62 : decode cX11_here 62 = .ok (.ireturn, 1) := by decide +kernel
theorem dX11_fails_0 : decode cX11_fails 0 = .ok (.aload_n 0, 1) := by decide +kernel
theorem dX11_fails_1 : decode cX11_fails 1 = .ok (.iload_n 2, 1) := by decide +kernel
theorem dX11_fails_2 : decode cX11_fails 2 = .ok (.putfield 42, 3) := by decide +kernel
theorem dX11_fails_5 : decode cX11_fails 5 = .ok (.iload_n 1, 1) := by decide +kernel
theorem dX11_fails_6 : decode cX11_fails 6 = .ok (.ireturn, 1) := by decide +kernel
theorem dX11_readWord_0 : decode cX11_readWord 0 = .ok (.aload_n 0, 1) := by decide +kernel
theorem dX11_readWord_1 : decode cX11_readWord 1 = .ok (.invokevirtual 153, 3) := by decide +kernel
theorem dX11_readWord_4 : decode cX11_readWord 4 = .ok (.istore_n 1, 1) := by decide +kernel
theorem dX11_readWord_5 : decode cX11_readWord 5 = .ok (.aload_n 0, 1) := by decide +kernel
theorem dX11_readWord_6 : decode cX11_readWord 6 = .ok (.lconst 0, 1) := by decide +kernel
theorem dX11_readWord_7 : decode cX11_readWord 7 = .ok (.putfield 157, 3) := by decide +kernel
theorem dX11_readWord_10 : decode cX11_readWord 10 = .ok (.aload_n 0, 1) := by decide +kernel
theorem dX11_readWord_11 : decode cX11_readWord 11 = .ok (.aload_n 0, 1) := by decide +kernel
theorem dX11_readWord_12 : decode cX11_readWord 12 = .ok (.getfield 150, 3) := by decide +kernel
theorem dX11_readWord_15 : decode cX11_readWord 15 = .ok (.putfield 161, 3) := by decide +kernel
theorem dX11_readWord_18 : decode cX11_readWord 18 = .ok (.aload_n 0, 1) := by decide +kernel
theorem dX11_readWord_19 : decode cX11_readWord 19 = .ok (.getfield 161, 3) := by decide +kernel
theorem dX11_readWord_22 : decode cX11_readWord 22 = .ok (.aload_n 0, 1) := by decide +kernel
theorem dX11_readWord_23 : decode cX11_readWord 23 = .ok (.getfield 145, 3) := by decide +kernel
theorem dX11_readWord_26 : decode cX11_readWord 26 = .ok (.if_icmp .ge 82, 3) := by decide +kernel
theorem dX11_readWord_29 : decode cX11_readWord 29 = .ok (.aload_n 0, 1) := by decide +kernel
theorem dX11_readWord_30 : decode cX11_readWord 30 = .ok (.getfield 39, 3) := by decide +kernel
theorem dX11_readWord_33 : decode cX11_readWord 33 = .ok (.aload_n 0, 1) := by decide +kernel
theorem dX11_readWord_34 : decode cX11_readWord 34 = .ok (.getfield 161, 3) := by decide +kernel
theorem dX11_readWord_37 : decode cX11_readWord 37 = .ok (.iaload, 1) := by decide +kernel
theorem dX11_readWord_38 : decode cX11_readWord 38 = .ok (.i2l, 1) := by decide +kernel
theorem dX11_readWord_39 : decode cX11_readWord 39 = .ok (.ldc2_w 164, 3) := by decide +kernel
theorem dX11_readWord_42 : decode cX11_readWord 42 = .ok (.ldc2_w 166, 3) := by decide +kernel
theorem dX11_readWord_45 : decode cX11_readWord 45 = .ok (.invokestatic 136, 3) := by decide +kernel
theorem dX11_readWord_48 : decode cX11_readWord 48 = .ok (.ifCond .eq 60, 3) := by decide +kernel
theorem dX11_readWord_51 : decode cX11_readWord 51 = .ok (.aload_n 0, 1) := by decide +kernel
theorem dX11_readWord_52 : decode cX11_readWord 52 = .ok (.aload_n 0, 1) := by decide +kernel
theorem dX11_readWord_53 : decode cX11_readWord 53 = .ok (.getfield 157, 3) := by decide +kernel
theorem dX11_readWord_56 : decode cX11_readWord 56 = .ok (.ldc2_w 168, 3) := by decide +kernel
theorem dX11_readWord_59 : decode cX11_readWord 59 = .ok (.lcmp, 1) := by decide +kernel
theorem dX11_readWord_60 : decode cX11_readWord 60 = .ok (.ifCond .le 9, 3) := by decide +kernel
theorem dX11_readWord_63 : decode cX11_readWord 63 = .ok (.ldc2_w 170, 3) := by decide +kernel
theorem dX11_readWord_66 : decode cX11_readWord 66 = .ok (.goto 26, 3) := by decide +kernel
theorem dX11_readWord_69 : decode cX11_readWord 69 = .ok (.ldc2_w 172, 3) := by decide +kernel
theorem dX11_readWord_72 : decode cX11_readWord 72 = .ok (.aload_n 0, 1) := by decide +kernel
theorem dX11_readWord_73 : decode cX11_readWord 73 = .ok (.getfield 157, 3) := by decide +kernel
theorem dX11_readWord_76 : decode cX11_readWord 76 = .ok (.lmul, 1) := by decide +kernel
theorem dX11_readWord_77 : decode cX11_readWord 77 = .ok (.aload_n 0, 1) := by decide +kernel
theorem dX11_readWord_78 : decode cX11_readWord 78 = .ok (.getfield 39, 3) := by decide +kernel
theorem dX11_readWord_81 : decode cX11_readWord 81 = .ok (.aload_n 0, 1) := by decide +kernel
theorem dX11_readWord_82 : decode cX11_readWord 82 = .ok (.getfield 161, 3) := by decide +kernel
theorem dX11_readWord_85 : decode cX11_readWord 85 = .ok (.iaload, 1) := by decide +kernel
theorem dX11_readWord_86 : decode cX11_readWord 86 = .ok (.i2l, 1) := by decide +kernel
theorem dX11_readWord_87 : decode cX11_readWord 87 = .ok (.ladd, 1) := by decide +kernel
theorem dX11_readWord_88 : decode cX11_readWord 88 = .ok (.ldc2_w 174, 3) := by decide +kernel
theorem dX11_readWord_91 : decode cX11_readWord 91 = .ok (.lsub, 1) := by decide +kernel
theorem dX11_readWord_92 : decode cX11_readWord 92 = .ok (.putfield 157, 3) := by decide +kernel
theorem dX11_readWord_95 : decode cX11_readWord 95 = .ok (.aload_n 0, 1) := by decide +kernel
theorem dX11_readWord_96 : decode cX11_readWord 96 = .ok (.dup, 1) := by decide +kernel
theorem dX11_readWord_97 : decode cX11_readWord 97 = .ok (.getfield 161, 3) := by decide +kernel
theorem dX11_readWord_100 : decode cX11_readWord 100 = .ok (.iconst 1, 1) := by decide +kernel
theorem dX11_readWord_101 : decode cX11_readWord 101 = .ok (.iadd, 1) := by decide +kernel
theorem dX11_readWord_102 : decode cX11_readWord 102 = .ok (.putfield 161, 3) := by decide +kernel
theorem dX11_readWord_105 : decode cX11_readWord 105 = .ok (.goto (-87), 3) := by decide +kernel
theorem dX11_readWord_108 : decode cX11_readWord 108 = .ok (.return_, 1) := by decide +kernel
theorem dX11_code_0 : decode cX11_code 0 = .ok (.ldc2_w 172, 3) := by decide +kernel
theorem dX11_code_3 : decode cX11_code 3 = .ok (.ldc2_w 172, 3) := by decide +kernel
theorem dX11_code_6 : decode cX11_code 6 = .ok (.iload_n 0, 1) := by decide +kernel
theorem dX11_code_7 : decode cX11_code 7 = .ok (.i2l, 1) := by decide +kernel
theorem dX11_code_8 : decode cX11_code 8 = .ok (.ldc2_w 174, 3) := by decide +kernel
theorem dX11_code_11 : decode cX11_code 11 = .ok (.lsub, 1) := by decide +kernel
theorem dX11_code_12 : decode cX11_code 12 = .ok (.lmul, 1) := by decide +kernel
theorem dX11_code_13 : decode cX11_code 13 = .ok (.iload_n 1, 1) := by decide +kernel
theorem dX11_code_14 : decode cX11_code 14 = .ok (.i2l, 1) := by decide +kernel
theorem dX11_code_15 : decode cX11_code 15 = .ok (.ladd, 1) := by decide +kernel
theorem dX11_code_16 : decode cX11_code 16 = .ok (.ldc2_w 174, 3) := by decide +kernel
theorem dX11_code_19 : decode cX11_code 19 = .ok (.lsub, 1) := by decide +kernel
theorem dX11_code_20 : decode cX11_code 20 = .ok (.lmul, 1) := by decide +kernel
theorem dX11_code_21 : decode cX11_code 21 = .ok (.iload_n 2, 1) := by decide +kernel
theorem dX11_code_22 : decode cX11_code 22 = .ok (.i2l, 1) := by decide +kernel
theorem dX11_code_23 : decode cX11_code 23 = .ok (.ladd, 1) := by decide +kernel
theorem dX11_code_24 : decode cX11_code 24 = .ok (.ldc2_w 174, 3) := by decide +kernel
theorem dX11_code_27 : decode cX11_code 27 = .ok (.lsub, 1) := by decide +kernel
theorem dX11_code_28 : decode cX11_code 28 = .ok (.lreturn, 1) := by decide +kernel
theorem dX11_longer_0 : decode cX11_longer 0 = .ok (.ldc2_w 172, 3) := by decide +kernel
theorem dX11_longer_3 : decode cX11_longer 3 = .ok (.lload_n 0, 1) := by decide +kernel
theorem dX11_longer_4 : decode cX11_longer 4 = .ok (.lmul, 1) := by decide +kernel
theorem dX11_longer_5 : decode cX11_longer 5 = .ok (.iload_n 2, 1) := by decide +kernel
theorem dX11_longer_6 : decode cX11_longer 6 = .ok (.i2l, 1) := by decide +kernel
theorem dX11_longer_7 : decode cX11_longer 7 = .ok (.ladd, 1) := by decide +kernel
theorem dX11_longer_8 : decode cX11_longer 8 = .ok (.ldc2_w 174, 3) := by decide +kernel
theorem dX11_longer_11 : decode cX11_longer 11 = .ok (.lsub, 1) := by decide +kernel
theorem dX11_longer_12 : decode cX11_longer 12 = .ok (.lreturn, 1) := by decide +kernel
theorem dX11_takeNumber_0 : decode cX11_takeNumber 0 = .ok (.aload_n 0, 1) := by decide +kernel
theorem dX11_takeNumber_1 : decode cX11_takeNumber 1 = .ok (.invokevirtual 153, 3) := by decide +kernel
theorem dX11_takeNumber_4 : decode cX11_takeNumber 4 = .ok (.istore_n 3, 1) := by decide +kernel
theorem dX11_takeNumber_5 : decode cX11_takeNumber 5 = .ok (.iload_n 3, 1) := by decide +kernel
theorem dX11_takeNumber_6 : decode cX11_takeNumber 6 = .ok (.i2l, 1) := by decide +kernel
theorem dX11_takeNumber_7 : decode cX11_takeNumber 7 = .ok (.ldc2_w 176, 3) := by decide +kernel
theorem dX11_takeNumber_10 : decode cX11_takeNumber 10 = .ok (.ldc2_w 178, 3) := by decide +kernel
theorem dX11_takeNumber_13 : decode cX11_takeNumber 13 = .ok (.invokestatic 136, 3) := by decide +kernel
theorem dX11_takeNumber_16 : decode cX11_takeNumber 16 = .ok (.ifCond .ne 13, 3) := by decide +kernel
theorem dX11_takeNumber_19 : decode cX11_takeNumber 19 = .ok (.aload_n 0, 1) := by decide +kernel
theorem dX11_takeNumber_20 : decode cX11_takeNumber 20 = .ok (.iconst 1, 1) := by decide +kernel
theorem dX11_takeNumber_21 : decode cX11_takeNumber 21 = .ok (.aload_n 0, 1) := by decide +kernel
theorem dX11_takeNumber_22 : decode cX11_takeNumber 22 = .ok (.getfield 150, 3) := by decide +kernel
theorem dX11_takeNumber_25 : decode cX11_takeNumber 25 = .ok (.invokevirtual 180, 3) := by decide +kernel
theorem dX11_takeNumber_28 : decode cX11_takeNumber 28 = .ok (.ireturn, 1) := by decide +kernel
theorem dX11_takeNumber_29 : decode cX11_takeNumber 29 = .ok (.aload_n 0, 1) := by decide +kernel
theorem dX11_takeNumber_30 : decode cX11_takeNumber 30 = .ok (.aload_n 0, 1) := by decide +kernel
theorem dX11_takeNumber_31 : decode cX11_takeNumber 31 = .ok (.getfield 150, 3) := by decide +kernel
theorem dX11_takeNumber_34 : decode cX11_takeNumber 34 = .ok (.putfield 184, 3) := by decide +kernel
theorem dX11_takeNumber_37 : decode cX11_takeNumber 37 = .ok (.aload_n 0, 1) := by decide +kernel
theorem dX11_takeNumber_38 : decode cX11_takeNumber 38 = .ok (.iconst 0, 1) := by decide +kernel
theorem dX11_takeNumber_39 : decode cX11_takeNumber 39 = .ok (.putfield 187, 3) := by decide +kernel
theorem dX11_takeNumber_42 : decode cX11_takeNumber 42 = .ok (.aload_n 0, 1) := by decide +kernel
theorem dX11_takeNumber_43 : decode cX11_takeNumber 43 = .ok (.getfield 150, 3) := by decide +kernel
theorem dX11_takeNumber_46 : decode cX11_takeNumber 46 = .ok (.aload_n 0, 1) := by decide +kernel
theorem dX11_takeNumber_47 : decode cX11_takeNumber 47 = .ok (.getfield 145, 3) := by decide +kernel
theorem dX11_takeNumber_50 : decode cX11_takeNumber 50 = .ok (.if_icmp .ge 79, 3) := by decide +kernel
theorem dX11_takeNumber_53 : decode cX11_takeNumber 53 = .ok (.aload_n 0, 1) := by decide +kernel
theorem dX11_takeNumber_54 : decode cX11_takeNumber 54 = .ok (.getfield 39, 3) := by decide +kernel
theorem dX11_takeNumber_57 : decode cX11_takeNumber 57 = .ok (.aload_n 0, 1) := by decide +kernel
theorem dX11_takeNumber_58 : decode cX11_takeNumber 58 = .ok (.getfield 150, 3) := by decide +kernel
theorem dX11_takeNumber_61 : decode cX11_takeNumber 61 = .ok (.iaload, 1) := by decide +kernel
theorem dX11_takeNumber_62 : decode cX11_takeNumber 62 = .ok (.i2l, 1) := by decide +kernel
theorem dX11_takeNumber_63 : decode cX11_takeNumber 63 = .ok (.ldc2_w 176, 3) := by decide +kernel
theorem dX11_takeNumber_66 : decode cX11_takeNumber 66 = .ok (.ldc2_w 178, 3) := by decide +kernel
theorem dX11_takeNumber_69 : decode cX11_takeNumber 69 = .ok (.invokestatic 136, 3) := by decide +kernel
theorem dX11_takeNumber_72 : decode cX11_takeNumber 72 = .ok (.ifCond .eq 57, 3) := by decide +kernel
theorem dX11_takeNumber_75 : decode cX11_takeNumber 75 = .ok (.aload_n 0, 1) := by decide +kernel
theorem dX11_takeNumber_76 : decode cX11_takeNumber 76 = .ok (.aload_n 0, 1) := by decide +kernel
theorem dX11_takeNumber_77 : decode cX11_takeNumber 77 = .ok (.getfield 187, 3) := by decide +kernel
theorem dX11_takeNumber_80 : decode cX11_takeNumber 80 = .ok (.sipush 10000, 3) := by decide +kernel
theorem dX11_takeNumber_83 : decode cX11_takeNumber 83 = .ok (.if_icmp .le 10, 3) := by decide +kernel
theorem dX11_takeNumber_86 : decode cX11_takeNumber 86 = .ok (.aload_n 0, 1) := by decide +kernel
theorem dX11_takeNumber_87 : decode cX11_takeNumber 87 = .ok (.getfield 187, 3) := by decide +kernel
theorem dX11_takeNumber_90 : decode cX11_takeNumber 90 = .ok (.goto 23, 3) := by decide +kernel
theorem dX11_takeNumber_93 : decode cX11_takeNumber 93 = .ok (.bipush 10, 2) := by decide +kernel
theorem dX11_takeNumber_95 : decode cX11_takeNumber 95 = .ok (.aload_n 0, 1) := by decide +kernel
theorem dX11_takeNumber_96 : decode cX11_takeNumber 96 = .ok (.getfield 187, 3) := by decide +kernel
theorem dX11_takeNumber_99 : decode cX11_takeNumber 99 = .ok (.imul, 1) := by decide +kernel
theorem dX11_takeNumber_100 : decode cX11_takeNumber 100 = .ok (.aload_n 0, 1) := by decide +kernel
theorem dX11_takeNumber_101 : decode cX11_takeNumber 101 = .ok (.getfield 39, 3) := by decide +kernel
theorem dX11_takeNumber_104 : decode cX11_takeNumber 104 = .ok (.aload_n 0, 1) := by decide +kernel
theorem dX11_takeNumber_105 : decode cX11_takeNumber 105 = .ok (.getfield 150, 3) := by decide +kernel
theorem dX11_takeNumber_108 : decode cX11_takeNumber 108 = .ok (.iaload, 1) := by decide +kernel
theorem dX11_takeNumber_109 : decode cX11_takeNumber 109 = .ok (.iadd, 1) := by decide +kernel
theorem dX11_takeNumber_110 : decode cX11_takeNumber 110 = .ok (.bipush 48, 2) := by decide +kernel
theorem dX11_takeNumber_112 : decode cX11_takeNumber 112 = .ok (.isub, 1) := by decide +kernel
theorem dX11_takeNumber_113 : decode cX11_takeNumber 113 = .ok (.putfield 187, 3) := by decide +kernel
theorem dX11_takeNumber_116 : decode cX11_takeNumber 116 = .ok (.aload_n 0, 1) := by decide +kernel
theorem dX11_takeNumber_117 : decode cX11_takeNumber 117 = .ok (.dup, 1) := by decide +kernel
theorem dX11_takeNumber_118 : decode cX11_takeNumber 118 = .ok (.getfield 150, 3) := by decide +kernel
theorem dX11_takeNumber_121 : decode cX11_takeNumber 121 = .ok (.iconst 1, 1) := by decide +kernel
theorem dX11_takeNumber_122 : decode cX11_takeNumber 122 = .ok (.iadd, 1) := by decide +kernel
theorem dX11_takeNumber_123 : decode cX11_takeNumber 123 = .ok (.putfield 150, 3) := by decide +kernel
theorem dX11_takeNumber_126 : decode cX11_takeNumber 126 = .ok (.goto (-84), 3) := by decide +kernel
theorem dX11_takeNumber_129 : decode cX11_takeNumber 129 = .ok (.aload_n 0, 1) := by decide +kernel
theorem dX11_takeNumber_130 : decode cX11_takeNumber 130 = .ok (.getfield 150, 3) := by decide +kernel
theorem dX11_takeNumber_133 : decode cX11_takeNumber 133 = .ok (.aload_n 0, 1) := by decide +kernel
theorem dX11_takeNumber_134 : decode cX11_takeNumber 134 = .ok (.getfield 184, 3) := by decide +kernel
theorem dX11_takeNumber_137 : decode cX11_takeNumber 137 = .ok (.isub, 1) := by decide +kernel
theorem dX11_takeNumber_138 : decode cX11_takeNumber 138 = .ok (.iconst 3, 1) := by decide +kernel
theorem dX11_takeNumber_139 : decode cX11_takeNumber 139 = .ok (.if_icmp .gt 18, 3) := by decide +kernel
theorem dX11_takeNumber_142 : decode cX11_takeNumber 142 = .ok (.aload_n 0, 1) := by decide +kernel
theorem dX11_takeNumber_143 : decode cX11_takeNumber 143 = .ok (.getfield 187, 3) := by decide +kernel
theorem dX11_takeNumber_146 : decode cX11_takeNumber 146 = .ok (.i2l, 1) := by decide +kernel
theorem dX11_takeNumber_147 : decode cX11_takeNumber 147 = .ok (.iload_n 1, 1) := by decide +kernel
theorem dX11_takeNumber_148 : decode cX11_takeNumber 148 = .ok (.i2l, 1) := by decide +kernel
theorem dX11_takeNumber_149 : decode cX11_takeNumber 149 = .ok (.iload_n 2, 1) := by decide +kernel
theorem dX11_takeNumber_150 : decode cX11_takeNumber 150 = .ok (.i2l, 1) := by decide +kernel
theorem dX11_takeNumber_151 : decode cX11_takeNumber 151 = .ok (.invokestatic 136, 3) := by decide +kernel
theorem dX11_takeNumber_154 : decode cX11_takeNumber 154 = .ok (.ifCond .ne 15, 3) := by decide +kernel
theorem dX11_takeNumber_157 : decode cX11_takeNumber 157 = .ok (.aload_n 0, 1) := by decide +kernel
theorem dX11_takeNumber_158 : decode cX11_takeNumber 158 = .ok (.iconst 2, 1) := by decide +kernel
theorem dX11_takeNumber_159 : decode cX11_takeNumber 159 = .ok (.aload_n 0, 1) := by decide +kernel
theorem dX11_takeNumber_160 : decode cX11_takeNumber 160 = .ok (.getfield 184, 3) := by decide +kernel
theorem dX11_takeNumber_163 : decode cX11_takeNumber 163 = .ok (.invokevirtual 180, 3) := by decide +kernel
theorem dX11_takeNumber_166 : decode cX11_takeNumber 166 = .ok (.goto 4, 3) := by decide +kernel
theorem dX11_takeNumber_169 : decode cX11_takeNumber 169 = .ok (.iconst 0, 1) := by decide +kernel
theorem dX11_takeNumber_170 : decode cX11_takeNumber 170 = .ok (.ireturn, 1) := by decide +kernel
theorem dX11_takePlaces_0 : decode cX11_takePlaces 0 = .ok (.aload_n 0, 1) := by decide +kernel
theorem dX11_takePlaces_1 : decode cX11_takePlaces 1 = .ok (.invokevirtual 190, 3) := by decide +kernel
theorem dX11_takePlaces_4 : decode cX11_takePlaces 4 = .ok (.bipush 112, 2) := by decide +kernel
theorem dX11_takePlaces_6 : decode cX11_takePlaces 6 = .ok (.bipush 108, 2) := by decide +kernel
theorem dX11_takePlaces_8 : decode cX11_takePlaces 8 = .ok (.bipush 97, 2) := by decide +kernel
theorem dX11_takePlaces_10 : decode cX11_takePlaces 10 = .ok (.invokestatic 193, 3) := by decide +kernel
theorem dX11_takePlaces_13 : decode cX11_takePlaces 13 = .ok (.bipush 99, 2) := by decide +kernel
theorem dX11_takePlaces_15 : decode cX11_takePlaces 15 = .ok (.invokestatic 197, 3) := by decide +kernel
theorem dX11_takePlaces_18 : decode cX11_takePlaces 18 = .ok (.bipush 101, 2) := by decide +kernel
theorem dX11_takePlaces_20 : decode cX11_takePlaces 20 = .ok (.invokestatic 197, 3) := by decide +kernel
theorem dX11_takePlaces_23 : decode cX11_takePlaces 23 = .ok (.bipush 115, 2) := by decide +kernel
theorem dX11_takePlaces_25 : decode cX11_takePlaces 25 = .ok (.invokestatic 197, 3) := by decide +kernel
theorem dX11_takePlaces_28 : decode cX11_takePlaces 28 = .ok (.lstore_n 1, 1) := by decide +kernel
theorem dX11_takePlaces_29 : decode cX11_takePlaces 29 = .ok (.aload_n 0, 1) := by decide +kernel
theorem dX11_takePlaces_30 : decode cX11_takePlaces 30 = .ok (.getfield 157, 3) := by decide +kernel
theorem dX11_takePlaces_33 : decode cX11_takePlaces 33 = .ok (.lload_n 1, 1) := by decide +kernel
theorem dX11_takePlaces_34 : decode cX11_takePlaces 34 = .ok (.lcmp, 1) := by decide +kernel
theorem dX11_takePlaces_35 : decode cX11_takePlaces 35 = .ok (.ifCond .eq 13, 3) := by decide +kernel
theorem dX11_takePlaces_38 : decode cX11_takePlaces 38 = .ok (.aload_n 0, 1) := by decide +kernel
theorem dX11_takePlaces_39 : decode cX11_takePlaces 39 = .ok (.iconst 1, 1) := by decide +kernel
theorem dX11_takePlaces_40 : decode cX11_takePlaces 40 = .ok (.aload_n 0, 1) := by decide +kernel
theorem dX11_takePlaces_41 : decode cX11_takePlaces 41 = .ok (.getfield 150, 3) := by decide +kernel
theorem dX11_takePlaces_44 : decode cX11_takePlaces 44 = .ok (.invokevirtual 180, 3) := by decide +kernel
theorem dX11_takePlaces_47 : decode cX11_takePlaces 47 = .ok (.ireturn, 1) := by decide +kernel
theorem dX11_takePlaces_48 : decode cX11_takePlaces 48 = .ok (.aload_n 0, 1) := by decide +kernel
theorem dX11_takePlaces_49 : decode cX11_takePlaces 49 = .ok (.aload_n 0, 1) := by decide +kernel
theorem dX11_takePlaces_50 : decode cX11_takePlaces 50 = .ok (.getfield 161, 3) := by decide +kernel
theorem dX11_takePlaces_53 : decode cX11_takePlaces 53 = .ok (.putfield 150, 3) := by decide +kernel
theorem dX11_takePlaces_56 : decode cX11_takePlaces 56 = .ok (.aload_n 0, 1) := by decide +kernel
theorem dX11_takePlaces_57 : decode cX11_takePlaces 57 = .ok (.iconst 2, 1) := by decide +kernel
theorem dX11_takePlaces_58 : decode cX11_takePlaces 58 = .ok (.bipush 12, 2) := by decide +kernel
theorem dX11_takePlaces_60 : decode cX11_takePlaces 60 = .ok (.invokevirtual 201, 3) := by decide +kernel
theorem dX11_takePlaces_63 : decode cX11_takePlaces 63 = .ok (.istore_n 3, 1) := by decide +kernel
theorem dX11_takePlaces_64 : decode cX11_takePlaces 64 = .ok (.aload_n 0, 1) := by decide +kernel
theorem dX11_takePlaces_65 : decode cX11_takePlaces 65 = .ok (.aload_n 0, 1) := by decide +kernel
theorem dX11_takePlaces_66 : decode cX11_takePlaces 66 = .ok (.getfield 187, 3) := by decide +kernel
theorem dX11_takePlaces_69 : decode cX11_takePlaces 69 = .ok (.putfield 204, 3) := by decide +kernel
theorem dX11_takePlaces_72 : decode cX11_takePlaces 72 = .ok (.iload_n 3, 1) := by decide +kernel
theorem dX11_takePlaces_73 : decode cX11_takePlaces 73 = .ok (.ifCond .le 7, 3) := by decide +kernel
theorem dX11_takePlaces_76 : decode cX11_takePlaces 76 = .ok (.iload_n 3, 1) := by decide +kernel
theorem dX11_takePlaces_77 : decode cX11_takePlaces 77 = .ok (.goto 7, 3) := by decide +kernel
theorem dX11_takePlaces_80 : decode cX11_takePlaces 80 = .ok (.aload_n 0, 1) := by decide +kernel
theorem dX11_takePlaces_81 : decode cX11_takePlaces 81 = .ok (.invokevirtual 207, 3) := by decide +kernel
theorem dX11_takePlaces_84 : decode cX11_takePlaces 84 = .ok (.ireturn, 1) := by decide +kernel
theorem dX11_takeStop_0 : decode cX11_takeStop 0 = .ok (.aload_n 0, 1) := by decide +kernel
theorem dX11_takeStop_1 : decode cX11_takeStop 1 = .ok (.invokevirtual 153, 3) := by decide +kernel
theorem dX11_takeStop_4 : decode cX11_takeStop 4 = .ok (.bipush 59, 2) := by decide +kernel
theorem dX11_takeStop_6 : decode cX11_takeStop 6 = .ok (.if_icmp .eq 13, 3) := by decide +kernel
theorem dX11_takeStop_9 : decode cX11_takeStop 9 = .ok (.aload_n 0, 1) := by decide +kernel
theorem dX11_takeStop_10 : decode cX11_takeStop 10 = .ok (.iconst 1, 1) := by decide +kernel
theorem dX11_takeStop_11 : decode cX11_takeStop 11 = .ok (.aload_n 0, 1) := by decide +kernel
theorem dX11_takeStop_12 : decode cX11_takeStop 12 = .ok (.getfield 150, 3) := by decide +kernel
theorem dX11_takeStop_15 : decode cX11_takeStop 15 = .ok (.invokevirtual 180, 3) := by decide +kernel
theorem dX11_takeStop_18 : decode cX11_takeStop 18 = .ok (.ireturn, 1) := by decide +kernel
theorem dX11_takeStop_19 : decode cX11_takeStop 19 = .ok (.aload_n 0, 1) := by decide +kernel
theorem dX11_takeStop_20 : decode cX11_takeStop 20 = .ok (.dup, 1) := by decide +kernel
theorem dX11_takeStop_21 : decode cX11_takeStop 21 = .ok (.getfield 150, 3) := by decide +kernel
theorem dX11_takeStop_24 : decode cX11_takeStop 24 = .ok (.iconst 1, 1) := by decide +kernel
theorem dX11_takeStop_25 : decode cX11_takeStop 25 = .ok (.iadd, 1) := by decide +kernel
theorem dX11_takeStop_26 : decode cX11_takeStop 26 = .ok (.putfield 150, 3) := by decide +kernel
theorem dX11_takeStop_29 : decode cX11_takeStop 29 = .ok (.iconst 0, 1) := by decide +kernel
theorem dX11_takeStop_30 : decode cX11_takeStop 30 = .ok (.ireturn, 1) := by decide +kernel
theorem dX11_takeOut_0 : decode cX11_takeOut 0 = .ok (.aload_n 0, 1) := by decide +kernel
theorem dX11_takeOut_1 : decode cX11_takeOut 1 = .ok (.getfield 210, 3) := by decide +kernel
theorem dX11_takeOut_4 : decode cX11_takeOut 4 = .ok (.ifCond .lt 13, 3) := by decide +kernel
theorem dX11_takeOut_7 : decode cX11_takeOut 7 = .ok (.aload_n 0, 1) := by decide +kernel
theorem dX11_takeOut_8 : decode cX11_takeOut 8 = .ok (.iconst 3, 1) := by decide +kernel
theorem dX11_takeOut_9 : decode cX11_takeOut 9 = .ok (.aload_n 0, 1) := by decide +kernel
theorem dX11_takeOut_10 : decode cX11_takeOut 10 = .ok (.getfield 150, 3) := by decide +kernel
theorem dX11_takeOut_13 : decode cX11_takeOut 13 = .ok (.invokevirtual 180, 3) := by decide +kernel
theorem dX11_takeOut_16 : decode cX11_takeOut 16 = .ok (.ireturn, 1) := by decide +kernel
theorem dX11_takeOut_17 : decode cX11_takeOut 17 = .ok (.aload_n 0, 1) := by decide +kernel
theorem dX11_takeOut_18 : decode cX11_takeOut 18 = .ok (.aload_n 0, 1) := by decide +kernel
theorem dX11_takeOut_19 : decode cX11_takeOut 19 = .ok (.getfield 161, 3) := by decide +kernel
theorem dX11_takeOut_22 : decode cX11_takeOut 22 = .ok (.putfield 150, 3) := by decide +kernel
theorem dX11_takeOut_25 : decode cX11_takeOut 25 = .ok (.aload_n 0, 1) := by decide +kernel
theorem dX11_takeOut_26 : decode cX11_takeOut 26 = .ok (.iconst 0, 1) := by decide +kernel
theorem dX11_takeOut_27 : decode cX11_takeOut 27 = .ok (.aload_n 0, 1) := by decide +kernel
theorem dX11_takeOut_28 : decode cX11_takeOut 28 = .ok (.getfield 204, 3) := by decide +kernel
theorem dX11_takeOut_31 : decode cX11_takeOut 31 = .ok (.iconst 1, 1) := by decide +kernel
theorem dX11_takeOut_32 : decode cX11_takeOut 32 = .ok (.isub, 1) := by decide +kernel
theorem dX11_takeOut_33 : decode cX11_takeOut 33 = .ok (.invokevirtual 201, 3) := by decide +kernel
theorem dX11_takeOut_36 : decode cX11_takeOut 36 = .ok (.istore_n 1, 1) := by decide +kernel
theorem dX11_takeOut_37 : decode cX11_takeOut 37 = .ok (.aload_n 0, 1) := by decide +kernel
theorem dX11_takeOut_38 : decode cX11_takeOut 38 = .ok (.getfield 187, 3) := by decide +kernel
theorem dX11_takeOut_41 : decode cX11_takeOut 41 = .ok (.istore_n 2, 1) := by decide +kernel
theorem dX11_takeOut_42 : decode cX11_takeOut 42 = .ok (.iload_n 1, 1) := by decide +kernel
theorem dX11_takeOut_43 : decode cX11_takeOut 43 = .ok (.ifCond .le 7, 3) := by decide +kernel
theorem dX11_takeOut_46 : decode cX11_takeOut 46 = .ok (.iload_n 1, 1) := by decide +kernel
theorem dX11_takeOut_47 : decode cX11_takeOut 47 = .ok (.goto 10, 3) := by decide +kernel
theorem dX11_takeOut_50 : decode cX11_takeOut 50 = .ok (.aload_n 0, 1) := by decide +kernel
theorem dX11_takeOut_51 : decode cX11_takeOut 51 = .ok (.iconst 1, 1) := by decide +kernel
theorem dX11_takeOut_52 : decode cX11_takeOut 52 = .ok (.bipush 9, 2) := by decide +kernel
theorem dX11_takeOut_54 : decode cX11_takeOut 54 = .ok (.invokevirtual 201, 3) := by decide +kernel
theorem dX11_takeOut_57 : decode cX11_takeOut 57 = .ok (.istore_n 1, 1) := by decide +kernel
theorem dX11_takeOut_58 : decode cX11_takeOut 58 = .ok (.aload_n 0, 1) := by decide +kernel
theorem dX11_takeOut_59 : decode cX11_takeOut 59 = .ok (.iload_n 2, 1) := by decide +kernel
theorem dX11_takeOut_60 : decode cX11_takeOut 60 = .ok (.putfield 210, 3) := by decide +kernel
theorem dX11_takeOut_63 : decode cX11_takeOut 63 = .ok (.aload_n 0, 1) := by decide +kernel
theorem dX11_takeOut_64 : decode cX11_takeOut 64 = .ok (.aload_n 0, 1) := by decide +kernel
theorem dX11_takeOut_65 : decode cX11_takeOut 65 = .ok (.getfield 187, 3) := by decide +kernel
theorem dX11_takeOut_68 : decode cX11_takeOut 68 = .ok (.putfield 213, 3) := by decide +kernel
theorem dX11_takeOut_71 : decode cX11_takeOut 71 = .ok (.iload_n 1, 1) := by decide +kernel
theorem dX11_takeOut_72 : decode cX11_takeOut 72 = .ok (.ifCond .le 7, 3) := by decide +kernel
theorem dX11_takeOut_75 : decode cX11_takeOut 75 = .ok (.iload_n 1, 1) := by decide +kernel
theorem dX11_takeOut_76 : decode cX11_takeOut 76 = .ok (.goto 7, 3) := by decide +kernel
theorem dX11_takeOut_79 : decode cX11_takeOut 79 = .ok (.aload_n 0, 1) := by decide +kernel
theorem dX11_takeOut_80 : decode cX11_takeOut 80 = .ok (.invokevirtual 207, 3) := by decide +kernel
theorem dX11_takeOut_83 : decode cX11_takeOut 83 = .ok (.ireturn, 1) := by decide +kernel
theorem dX11_wordOf_0 : decode cX11_wordOf 0 = .ok (.bipush 102, 2) := by decide +kernel
theorem dX11_wordOf_2 : decode cX11_wordOf 2 = .ok (.bipush 105, 2) := by decide +kernel
theorem dX11_wordOf_4 : decode cX11_wordOf 4 = .ok (.bipush 108, 2) := by decide +kernel
theorem dX11_wordOf_6 : decode cX11_wordOf 6 = .ok (.invokestatic 193, 3) := by decide +kernel
theorem dX11_wordOf_9 : decode cX11_wordOf 9 = .ok (.bipush 108, 2) := by decide +kernel
theorem dX11_wordOf_11 : decode cX11_wordOf 11 = .ok (.invokestatic 197, 3) := by decide +kernel
theorem dX11_wordOf_14 : decode cX11_wordOf 14 = .ok (.bipush 115, 2) := by decide +kernel
theorem dX11_wordOf_16 : decode cX11_wordOf 16 = .ok (.invokestatic 197, 3) := by decide +kernel
theorem dX11_wordOf_19 : decode cX11_wordOf 19 = .ok (.lstore_n 1, 1) := by decide +kernel
theorem dX11_wordOf_20 : decode cX11_wordOf 20 = .ok (.aload_n 0, 1) := by decide +kernel
theorem dX11_wordOf_21 : decode cX11_wordOf 21 = .ok (.getfield 157, 3) := by decide +kernel
theorem dX11_wordOf_24 : decode cX11_wordOf 24 = .ok (.bipush 100, 2) := by decide +kernel
theorem dX11_wordOf_26 : decode cX11_wordOf 26 = .ok (.bipush 97, 2) := by decide +kernel
theorem dX11_wordOf_28 : decode cX11_wordOf 28 = .ok (.bipush 114, 2) := by decide +kernel
theorem dX11_wordOf_30 : decode cX11_wordOf 30 = .ok (.invokestatic 193, 3) := by decide +kernel
theorem dX11_wordOf_33 : decode cX11_wordOf 33 = .ok (.bipush 107, 2) := by decide +kernel
theorem dX11_wordOf_35 : decode cX11_wordOf 35 = .ok (.invokestatic 197, 3) := by decide +kernel
theorem dX11_wordOf_38 : decode cX11_wordOf 38 = .ok (.lcmp, 1) := by decide +kernel
theorem dX11_wordOf_39 : decode cX11_wordOf 39 = .ok (.ifCond .ne 7, 3) := by decide +kernel
theorem dX11_wordOf_42 : decode cX11_wordOf 42 = .ok (.iconst 3, 1) := by decide +kernel
theorem dX11_wordOf_43 : decode cX11_wordOf 43 = .ok (.goto 65, 3) := by decide +kernel
theorem dX11_wordOf_46 : decode cX11_wordOf 46 = .ok (.aload_n 0, 1) := by decide +kernel
theorem dX11_wordOf_47 : decode cX11_wordOf 47 = .ok (.getfield 157, 3) := by decide +kernel
theorem dX11_wordOf_50 : decode cX11_wordOf 50 = .ok (.bipush 119, 2) := by decide +kernel
theorem dX11_wordOf_52 : decode cX11_wordOf 52 = .ok (.bipush 105, 2) := by decide +kernel
theorem dX11_wordOf_54 : decode cX11_wordOf 54 = .ok (.bipush 100, 2) := by decide +kernel
theorem dX11_wordOf_56 : decode cX11_wordOf 56 = .ok (.invokestatic 193, 3) := by decide +kernel
theorem dX11_wordOf_59 : decode cX11_wordOf 59 = .ok (.bipush 101, 2) := by decide +kernel
theorem dX11_wordOf_61 : decode cX11_wordOf 61 = .ok (.invokestatic 197, 3) := by decide +kernel
theorem dX11_wordOf_64 : decode cX11_wordOf 64 = .ok (.lcmp, 1) := by decide +kernel
theorem dX11_wordOf_65 : decode cX11_wordOf 65 = .ok (.ifCond .ne 7, 3) := by decide +kernel
theorem dX11_wordOf_68 : decode cX11_wordOf 68 = .ok (.iconst 4, 1) := by decide +kernel
theorem dX11_wordOf_69 : decode cX11_wordOf 69 = .ok (.goto 39, 3) := by decide +kernel
theorem dX11_wordOf_72 : decode cX11_wordOf 72 = .ok (.aload_n 0, 1) := by decide +kernel
theorem dX11_wordOf_73 : decode cX11_wordOf 73 = .ok (.getfield 157, 3) := by decide +kernel
theorem dX11_wordOf_76 : decode cX11_wordOf 76 = .ok (.lload_n 1, 1) := by decide +kernel
theorem dX11_wordOf_77 : decode cX11_wordOf 77 = .ok (.lcmp, 1) := by decide +kernel
theorem dX11_wordOf_78 : decode cX11_wordOf 78 = .ok (.ifCond .ne 7, 3) := by decide +kernel
theorem dX11_wordOf_81 : decode cX11_wordOf 81 = .ok (.iconst 5, 1) := by decide +kernel
theorem dX11_wordOf_82 : decode cX11_wordOf 82 = .ok (.goto 26, 3) := by decide +kernel
theorem dX11_wordOf_85 : decode cX11_wordOf 85 = .ok (.aload_n 0, 1) := by decide +kernel
theorem dX11_wordOf_86 : decode cX11_wordOf 86 = .ok (.getfield 157, 3) := by decide +kernel
theorem dX11_wordOf_89 : decode cX11_wordOf 89 = .ok (.bipush 98, 2) := by decide +kernel
theorem dX11_wordOf_91 : decode cX11_wordOf 91 = .ok (.bipush 97, 2) := by decide +kernel
theorem dX11_wordOf_93 : decode cX11_wordOf 93 = .ok (.bipush 100, 2) := by decide +kernel
theorem dX11_wordOf_95 : decode cX11_wordOf 95 = .ok (.invokestatic 193, 3) := by decide +kernel
theorem dX11_wordOf_98 : decode cX11_wordOf 98 = .ok (.lcmp, 1) := by decide +kernel
theorem dX11_wordOf_99 : decode cX11_wordOf 99 = .ok (.ifCond .ne 8, 3) := by decide +kernel
theorem dX11_wordOf_102 : decode cX11_wordOf 102 = .ok (.bipush 6, 2) := by decide +kernel
theorem dX11_wordOf_104 : decode cX11_wordOf 104 = .ok (.goto 4, 3) := by decide +kernel
theorem dX11_wordOf_107 : decode cX11_wordOf 107 = .ok (.iconst (-1), 1) := by decide +kernel
theorem dX11_wordOf_108 : decode cX11_wordOf 108 = .ok (.ireturn, 1) := by decide +kernel
theorem dX11_takeWay_0 : decode cX11_takeWay 0 = .ok (.aload_n 0, 1) := by decide +kernel
theorem dX11_takeWay_1 : decode cX11_takeWay 1 = .ok (.getfield 216, 3) := by decide +kernel
theorem dX11_takeWay_4 : decode cX11_takeWay 4 = .ok (.bipush 24, 2) := by decide +kernel
theorem dX11_takeWay_6 : decode cX11_takeWay 6 = .ok (.if_icmp .ne 13, 3) := by decide +kernel
theorem dX11_takeWay_9 : decode cX11_takeWay 9 = .ok (.aload_n 0, 1) := by decide +kernel
theorem dX11_takeWay_10 : decode cX11_takeWay 10 = .ok (.iconst 4, 1) := by decide +kernel
theorem dX11_takeWay_11 : decode cX11_takeWay 11 = .ok (.aload_n 0, 1) := by decide +kernel
theorem dX11_takeWay_12 : decode cX11_takeWay 12 = .ok (.getfield 150, 3) := by decide +kernel
theorem dX11_takeWay_15 : decode cX11_takeWay 15 = .ok (.invokevirtual 180, 3) := by decide +kernel
theorem dX11_takeWay_18 : decode cX11_takeWay 18 = .ok (.ireturn, 1) := by decide +kernel
theorem dX11_takeWay_19 : decode cX11_takeWay 19 = .ok (.aload_n 0, 1) := by decide +kernel
theorem dX11_takeWay_20 : decode cX11_takeWay 20 = .ok (.aload_n 0, 1) := by decide +kernel
theorem dX11_takeWay_21 : decode cX11_takeWay 21 = .ok (.getfield 161, 3) := by decide +kernel
theorem dX11_takeWay_24 : decode cX11_takeWay 24 = .ok (.putfield 150, 3) := by decide +kernel
theorem dX11_takeWay_27 : decode cX11_takeWay 27 = .ok (.bipush 7, 2) := by decide +kernel
theorem dX11_takeWay_29 : decode cX11_takeWay 29 = .ok (.aload_n 0, 1) := by decide +kernel
theorem dX11_takeWay_30 : decode cX11_takeWay 30 = .ok (.getfield 216, 3) := by decide +kernel
theorem dX11_takeWay_33 : decode cX11_takeWay 33 = .ok (.imul, 1) := by decide +kernel
theorem dX11_takeWay_34 : decode cX11_takeWay 34 = .ok (.istore_n 1, 1) := by decide +kernel
theorem dX11_takeWay_35 : decode cX11_takeWay 35 = .ok (.aload_n 0, 1) := by decide +kernel
theorem dX11_takeWay_36 : decode cX11_takeWay 36 = .ok (.iconst 0, 1) := by decide +kernel
theorem dX11_takeWay_37 : decode cX11_takeWay 37 = .ok (.aload_n 0, 1) := by decide +kernel
theorem dX11_takeWay_38 : decode cX11_takeWay 38 = .ok (.getfield 204, 3) := by decide +kernel
theorem dX11_takeWay_41 : decode cX11_takeWay 41 = .ok (.iconst 1, 1) := by decide +kernel
theorem dX11_takeWay_42 : decode cX11_takeWay 42 = .ok (.isub, 1) := by decide +kernel
theorem dX11_takeWay_43 : decode cX11_takeWay 43 = .ok (.invokevirtual 201, 3) := by decide +kernel
theorem dX11_takeWay_46 : decode cX11_takeWay 46 = .ok (.istore_n 2, 1) := by decide +kernel
theorem dX11_takeWay_47 : decode cX11_takeWay 47 = .ok (.aload_n 0, 1) := by decide +kernel
theorem dX11_takeWay_48 : decode cX11_takeWay 48 = .ok (.getfield 45, 3) := by decide +kernel
theorem dX11_takeWay_51 : decode cX11_takeWay 51 = .ok (.iload_n 1, 1) := by decide +kernel
theorem dX11_takeWay_52 : decode cX11_takeWay 52 = .ok (.aload_n 0, 1) := by decide +kernel
theorem dX11_takeWay_53 : decode cX11_takeWay 53 = .ok (.getfield 187, 3) := by decide +kernel
theorem dX11_takeWay_56 : decode cX11_takeWay 56 = .ok (.iastore, 1) := by decide +kernel
theorem dX11_takeWay_57 : decode cX11_takeWay 57 = .ok (.iload_n 2, 1) := by decide +kernel
theorem dX11_takeWay_58 : decode cX11_takeWay 58 = .ok (.ifCond .le 7, 3) := by decide +kernel
theorem dX11_takeWay_61 : decode cX11_takeWay 61 = .ok (.iload_n 2, 1) := by decide +kernel
theorem dX11_takeWay_62 : decode cX11_takeWay 62 = .ok (.goto 14, 3) := by decide +kernel
theorem dX11_takeWay_65 : decode cX11_takeWay 65 = .ok (.aload_n 0, 1) := by decide +kernel
theorem dX11_takeWay_66 : decode cX11_takeWay 66 = .ok (.iconst 0, 1) := by decide +kernel
theorem dX11_takeWay_67 : decode cX11_takeWay 67 = .ok (.aload_n 0, 1) := by decide +kernel
theorem dX11_takeWay_68 : decode cX11_takeWay 68 = .ok (.getfield 204, 3) := by decide +kernel
theorem dX11_takeWay_71 : decode cX11_takeWay 71 = .ok (.iconst 1, 1) := by decide +kernel
theorem dX11_takeWay_72 : decode cX11_takeWay 72 = .ok (.isub, 1) := by decide +kernel
theorem dX11_takeWay_73 : decode cX11_takeWay 73 = .ok (.invokevirtual 201, 3) := by decide +kernel
theorem dX11_takeWay_76 : decode cX11_takeWay 76 = .ok (.istore_n 2, 1) := by decide +kernel
theorem dX11_takeWay_77 : decode cX11_takeWay 77 = .ok (.iload_n 2, 1) := by decide +kernel
theorem dX11_takeWay_78 : decode cX11_takeWay 78 = .ok (.ifCond .ne 26, 3) := by decide +kernel
theorem dX11_takeWay_81 : decode cX11_takeWay 81 = .ok (.aload_n 0, 1) := by decide +kernel
theorem dX11_takeWay_82 : decode cX11_takeWay 82 = .ok (.getfield 187, 3) := by decide +kernel
theorem dX11_takeWay_85 : decode cX11_takeWay 85 = .ok (.aload_n 0, 1) := by decide +kernel
theorem dX11_takeWay_86 : decode cX11_takeWay 86 = .ok (.getfield 45, 3) := by decide +kernel
theorem dX11_takeWay_89 : decode cX11_takeWay 89 = .ok (.iload_n 1, 1) := by decide +kernel
theorem dX11_takeWay_90 : decode cX11_takeWay 90 = .ok (.iaload, 1) := by decide +kernel
theorem dX11_takeWay_91 : decode cX11_takeWay 91 = .ok (.if_icmp .ne 13, 3) := by decide +kernel
theorem dX11_takeWay_94 : decode cX11_takeWay 94 = .ok (.aload_n 0, 1) := by decide +kernel
theorem dX11_takeWay_95 : decode cX11_takeWay 95 = .ok (.iconst 5, 1) := by decide +kernel
theorem dX11_takeWay_96 : decode cX11_takeWay 96 = .ok (.aload_n 0, 1) := by decide +kernel
theorem dX11_takeWay_97 : decode cX11_takeWay 97 = .ok (.getfield 184, 3) := by decide +kernel
theorem dX11_takeWay_100 : decode cX11_takeWay 100 = .ok (.invokevirtual 180, 3) := by decide +kernel
theorem dX11_takeWay_103 : decode cX11_takeWay 103 = .ok (.istore_n 2, 1) := by decide +kernel
theorem dX11_takeWay_104 : decode cX11_takeWay 104 = .ok (.aload_n 0, 1) := by decide +kernel
theorem dX11_takeWay_105 : decode cX11_takeWay 105 = .ok (.getfield 45, 3) := by decide +kernel
theorem dX11_takeWay_108 : decode cX11_takeWay 108 = .ok (.iload_n 1, 1) := by decide +kernel
theorem dX11_takeWay_109 : decode cX11_takeWay 109 = .ok (.iconst 1, 1) := by decide +kernel
theorem dX11_takeWay_110 : decode cX11_takeWay 110 = .ok (.iadd, 1) := by decide +kernel
theorem dX11_takeWay_111 : decode cX11_takeWay 111 = .ok (.aload_n 0, 1) := by decide +kernel
theorem dX11_takeWay_112 : decode cX11_takeWay 112 = .ok (.getfield 187, 3) := by decide +kernel
theorem dX11_takeWay_115 : decode cX11_takeWay 115 = .ok (.iastore, 1) := by decide +kernel
theorem dX11_takeWay_116 : decode cX11_takeWay 116 = .ok (.iload_n 2, 1) := by decide +kernel
theorem dX11_takeWay_117 : decode cX11_takeWay 117 = .ok (.ifCond .le 7, 3) := by decide +kernel
theorem dX11_takeWay_120 : decode cX11_takeWay 120 = .ok (.iload_n 2, 1) := by decide +kernel
theorem dX11_takeWay_121 : decode cX11_takeWay 121 = .ok (.goto 10, 3) := by decide +kernel
theorem dX11_takeWay_124 : decode cX11_takeWay 124 = .ok (.aload_n 0, 1) := by decide +kernel
theorem dX11_takeWay_125 : decode cX11_takeWay 125 = .ok (.iconst 1, 1) := by decide +kernel
theorem dX11_takeWay_126 : decode cX11_takeWay 126 = .ok (.bipush 30, 2) := by decide +kernel
theorem dX11_takeWay_128 : decode cX11_takeWay 128 = .ok (.invokevirtual 201, 3) := by decide +kernel
theorem dX11_takeWay_131 : decode cX11_takeWay 131 = .ok (.istore_n 2, 1) := by decide +kernel
theorem dX11_takeWay_132 : decode cX11_takeWay 132 = .ok (.aload_n 0, 1) := by decide +kernel
theorem dX11_takeWay_133 : decode cX11_takeWay 133 = .ok (.getfield 45, 3) := by decide +kernel
theorem dX11_takeWay_136 : decode cX11_takeWay 136 = .ok (.iload_n 1, 1) := by decide +kernel
theorem dX11_takeWay_137 : decode cX11_takeWay 137 = .ok (.iconst 2, 1) := by decide +kernel
theorem dX11_takeWay_138 : decode cX11_takeWay 138 = .ok (.iadd, 1) := by decide +kernel
theorem dX11_takeWay_139 : decode cX11_takeWay 139 = .ok (.aload_n 0, 1) := by decide +kernel
theorem dX11_takeWay_140 : decode cX11_takeWay 140 = .ok (.getfield 187, 3) := by decide +kernel
theorem dX11_takeWay_143 : decode cX11_takeWay 143 = .ok (.iastore, 1) := by decide +kernel
theorem dX11_takeWay_144 : decode cX11_takeWay 144 = .ok (.aload_n 0, 1) := by decide +kernel
theorem dX11_takeWay_145 : decode cX11_takeWay 145 = .ok (.getfield 45, 3) := by decide +kernel
theorem dX11_takeWay_148 : decode cX11_takeWay 148 = .ok (.iload_n 1, 1) := by decide +kernel
theorem dX11_takeWay_149 : decode cX11_takeWay 149 = .ok (.iconst 3, 1) := by decide +kernel
theorem dX11_takeWay_150 : decode cX11_takeWay 150 = .ok (.iadd, 1) := by decide +kernel
theorem dX11_takeWay_151 : decode cX11_takeWay 151 = .ok (.iconst (-1), 1) := by decide +kernel
theorem dX11_takeWay_152 : decode cX11_takeWay 152 = .ok (.iastore, 1) := by decide +kernel
theorem dX11_takeWay_153 : decode cX11_takeWay 153 = .ok (.aload_n 0, 1) := by decide +kernel
theorem dX11_takeWay_154 : decode cX11_takeWay 154 = .ok (.getfield 45, 3) := by decide +kernel
theorem dX11_takeWay_157 : decode cX11_takeWay 157 = .ok (.iload_n 1, 1) := by decide +kernel
theorem dX11_takeWay_158 : decode cX11_takeWay 158 = .ok (.iconst 4, 1) := by decide +kernel
theorem dX11_takeWay_159 : decode cX11_takeWay 159 = .ok (.iadd, 1) := by decide +kernel
theorem dX11_takeWay_160 : decode cX11_takeWay 160 = .ok (.bipush 9, 2) := by decide +kernel
theorem dX11_takeWay_162 : decode cX11_takeWay 162 = .ok (.iastore, 1) := by decide +kernel
theorem dX11_takeWay_163 : decode cX11_takeWay 163 = .ok (.aload_n 0, 1) := by decide +kernel
theorem dX11_takeWay_164 : decode cX11_takeWay 164 = .ok (.getfield 45, 3) := by decide +kernel
theorem dX11_takeWay_167 : decode cX11_takeWay 167 = .ok (.iload_n 1, 1) := by decide +kernel
theorem dX11_takeWay_168 : decode cX11_takeWay 168 = .ok (.iconst 5, 1) := by decide +kernel
theorem dX11_takeWay_169 : decode cX11_takeWay 169 = .ok (.iadd, 1) := by decide +kernel
theorem dX11_takeWay_170 : decode cX11_takeWay 170 = .ok (.bipush 99, 2) := by decide +kernel
theorem dX11_takeWay_172 : decode cX11_takeWay 172 = .ok (.iastore, 1) := by decide +kernel
theorem dX11_takeWay_173 : decode cX11_takeWay 173 = .ok (.aload_n 0, 1) := by decide +kernel
theorem dX11_takeWay_174 : decode cX11_takeWay 174 = .ok (.getfield 45, 3) := by decide +kernel
theorem dX11_takeWay_177 : decode cX11_takeWay 177 = .ok (.iload_n 1, 1) := by decide +kernel
theorem dX11_takeWay_178 : decode cX11_takeWay 178 = .ok (.bipush 6, 2) := by decide +kernel
theorem dX11_takeWay_180 : decode cX11_takeWay 180 = .ok (.iadd, 1) := by decide +kernel
theorem dX11_takeWay_181 : decode cX11_takeWay 181 = .ok (.iconst 0, 1) := by decide +kernel
theorem dX11_takeWay_182 : decode cX11_takeWay 182 = .ok (.iastore, 1) := by decide +kernel
theorem dX11_takeWay_183 : decode cX11_takeWay 183 = .ok (.iconst 2, 1) := by decide +kernel
theorem dX11_takeWay_184 : decode cX11_takeWay 184 = .ok (.istore_n 3, 1) := by decide +kernel
theorem dX11_takeWay_185 : decode cX11_takeWay 185 = .ok (.iload_n 2, 1) := by decide +kernel
theorem dX11_takeWay_186 : decode cX11_takeWay 186 = .ok (.ifCond .ne 124, 3) := by decide +kernel
theorem dX11_takeWay_189 : decode cX11_takeWay 189 = .ok (.aload_n 0, 1) := by decide +kernel
theorem dX11_takeWay_190 : decode cX11_takeWay 190 = .ok (.invokevirtual 153, 3) := by decide +kernel
theorem dX11_takeWay_193 : decode cX11_takeWay 193 = .ok (.bipush 59, 2) := by decide +kernel
theorem dX11_takeWay_195 : decode cX11_takeWay 195 = .ok (.if_icmp .eq 115, 3) := by decide +kernel
theorem dX11_takeWay_198 : decode cX11_takeWay 198 = .ok (.aload_n 0, 1) := by decide +kernel
theorem dX11_takeWay_199 : decode cX11_takeWay 199 = .ok (.invokevirtual 190, 3) := by decide +kernel
theorem dX11_takeWay_202 : decode cX11_takeWay 202 = .ok (.aload_n 0, 1) := by decide +kernel
theorem dX11_takeWay_203 : decode cX11_takeWay 203 = .ok (.invokevirtual 219, 3) := by decide +kernel
theorem dX11_takeWay_206 : decode cX11_takeWay 206 = .ok (.istore 4, 2) := by decide +kernel
theorem dX11_takeWay_208 : decode cX11_takeWay 208 = .ok (.iload 4, 2) := by decide +kernel
theorem dX11_takeWay_210 : decode cX11_takeWay 210 = .ok (.iload_n 3, 1) := by decide +kernel
theorem dX11_takeWay_211 : decode cX11_takeWay 211 = .ok (.if_icmp .gt 13, 3) := by decide +kernel
theorem dX11_takeWay_214 : decode cX11_takeWay 214 = .ok (.aload_n 0, 1) := by decide +kernel
theorem dX11_takeWay_215 : decode cX11_takeWay 215 = .ok (.iconst 1, 1) := by decide +kernel
theorem dX11_takeWay_216 : decode cX11_takeWay 216 = .ok (.aload_n 0, 1) := by decide +kernel
theorem dX11_takeWay_217 : decode cX11_takeWay 217 = .ok (.getfield 150, 3) := by decide +kernel
theorem dX11_takeWay_220 : decode cX11_takeWay 220 = .ok (.invokevirtual 180, 3) := by decide +kernel
theorem dX11_takeWay_223 : decode cX11_takeWay 223 = .ok (.ireturn, 1) := by decide +kernel
theorem dX11_takeWay_224 : decode cX11_takeWay 224 = .ok (.iload 4, 2) := by decide +kernel
theorem dX11_takeWay_226 : decode cX11_takeWay 226 = .ok (.istore_n 3, 1) := by decide +kernel
theorem dX11_takeWay_227 : decode cX11_takeWay 227 = .ok (.aload_n 0, 1) := by decide +kernel
theorem dX11_takeWay_228 : decode cX11_takeWay 228 = .ok (.aload_n 0, 1) := by decide +kernel
theorem dX11_takeWay_229 : decode cX11_takeWay 229 = .ok (.getfield 161, 3) := by decide +kernel
theorem dX11_takeWay_232 : decode cX11_takeWay 232 = .ok (.putfield 150, 3) := by decide +kernel
theorem dX11_takeWay_235 : decode cX11_takeWay 235 = .ok (.iload 4, 2) := by decide +kernel
theorem dX11_takeWay_237 : decode cX11_takeWay 237 = .ok (.iconst 3, 1) := by decide +kernel
theorem dX11_takeWay_238 : decode cX11_takeWay 238 = .ok (.if_icmp .ne 20, 3) := by decide +kernel
theorem dX11_takeWay_241 : decode cX11_takeWay 241 = .ok (.aload_n 0, 1) := by decide +kernel
theorem dX11_takeWay_242 : decode cX11_takeWay 242 = .ok (.aload_n 0, 1) := by decide +kernel
theorem dX11_takeWay_243 : decode cX11_takeWay 243 = .ok (.getfield 45, 3) := by decide +kernel
theorem dX11_takeWay_246 : decode cX11_takeWay 246 = .ok (.iload_n 1, 1) := by decide +kernel
theorem dX11_takeWay_247 : decode cX11_takeWay 247 = .ok (.iconst 2, 1) := by decide +kernel
theorem dX11_takeWay_248 : decode cX11_takeWay 248 = .ok (.iadd, 1) := by decide +kernel
theorem dX11_takeWay_249 : decode cX11_takeWay 249 = .ok (.iaload, 1) := by decide +kernel
theorem dX11_takeWay_250 : decode cX11_takeWay 250 = .ok (.bipush 60, 2) := by decide +kernel
theorem dX11_takeWay_252 : decode cX11_takeWay 252 = .ok (.invokevirtual 201, 3) := by decide +kernel
theorem dX11_takeWay_255 : decode cX11_takeWay 255 = .ok (.goto 38, 3) := by decide +kernel
theorem dX11_takeWay_258 : decode cX11_takeWay 258 = .ok (.iload 4, 2) := by decide +kernel
theorem dX11_takeWay_260 : decode cX11_takeWay 260 = .ok (.iconst 4, 1) := by decide +kernel
theorem dX11_takeWay_261 : decode cX11_takeWay 261 = .ok (.if_icmp .ne 13, 3) := by decide +kernel
theorem dX11_takeWay_264 : decode cX11_takeWay 264 = .ok (.aload_n 0, 1) := by decide +kernel
theorem dX11_takeWay_265 : decode cX11_takeWay 265 = .ok (.iconst 1, 1) := by decide +kernel
theorem dX11_takeWay_266 : decode cX11_takeWay 266 = .ok (.bipush 9, 2) := by decide +kernel
theorem dX11_takeWay_268 : decode cX11_takeWay 268 = .ok (.invokevirtual 201, 3) := by decide +kernel
theorem dX11_takeWay_271 : decode cX11_takeWay 271 = .ok (.goto 22, 3) := by decide +kernel
theorem dX11_takeWay_274 : decode cX11_takeWay 274 = .ok (.aload_n 0, 1) := by decide +kernel
theorem dX11_takeWay_275 : decode cX11_takeWay 275 = .ok (.iconst 0, 1) := by decide +kernel
theorem dX11_takeWay_276 : decode cX11_takeWay 276 = .ok (.iload 4, 2) := by decide +kernel
theorem dX11_takeWay_278 : decode cX11_takeWay 278 = .ok (.iconst 5, 1) := by decide +kernel
theorem dX11_takeWay_279 : decode cX11_takeWay 279 = .ok (.if_icmp .ne 8, 3) := by decide +kernel
theorem dX11_takeWay_282 : decode cX11_takeWay 282 = .ok (.bipush 99, 2) := by decide +kernel
theorem dX11_takeWay_284 : decode cX11_takeWay 284 = .ok (.goto 6, 3) := by decide +kernel
theorem dX11_takeWay_287 : decode cX11_takeWay 287 = .ok (.sipush 999, 3) := by decide +kernel
theorem dX11_takeWay_290 : decode cX11_takeWay 290 = .ok (.invokevirtual 201, 3) := by decide +kernel
theorem dX11_takeWay_293 : decode cX11_takeWay 293 = .ok (.istore_n 2, 1) := by decide +kernel
theorem dX11_takeWay_294 : decode cX11_takeWay 294 = .ok (.aload_n 0, 1) := by decide +kernel
theorem dX11_takeWay_295 : decode cX11_takeWay 295 = .ok (.getfield 45, 3) := by decide +kernel
theorem dX11_takeWay_298 : decode cX11_takeWay 298 = .ok (.iload_n 1, 1) := by decide +kernel
theorem dX11_takeWay_299 : decode cX11_takeWay 299 = .ok (.iload 4, 2) := by decide +kernel
theorem dX11_takeWay_301 : decode cX11_takeWay 301 = .ok (.iadd, 1) := by decide +kernel
theorem dX11_takeWay_302 : decode cX11_takeWay 302 = .ok (.aload_n 0, 1) := by decide +kernel
theorem dX11_takeWay_303 : decode cX11_takeWay 303 = .ok (.getfield 187, 3) := by decide +kernel
theorem dX11_takeWay_306 : decode cX11_takeWay 306 = .ok (.iastore, 1) := by decide +kernel
theorem dX11_takeWay_307 : decode cX11_takeWay 307 = .ok (.goto (-122), 3) := by decide +kernel
theorem dX11_takeWay_310 : decode cX11_takeWay 310 = .ok (.aload_n 0, 1) := by decide +kernel
theorem dX11_takeWay_311 : decode cX11_takeWay 311 = .ok (.dup, 1) := by decide +kernel
theorem dX11_takeWay_312 : decode cX11_takeWay 312 = .ok (.getfield 216, 3) := by decide +kernel
theorem dX11_takeWay_315 : decode cX11_takeWay 315 = .ok (.iconst 1, 1) := by decide +kernel
theorem dX11_takeWay_316 : decode cX11_takeWay 316 = .ok (.iadd, 1) := by decide +kernel
theorem dX11_takeWay_317 : decode cX11_takeWay 317 = .ok (.putfield 216, 3) := by decide +kernel
theorem dX11_takeWay_320 : decode cX11_takeWay 320 = .ok (.iload_n 2, 1) := by decide +kernel
theorem dX11_takeWay_321 : decode cX11_takeWay 321 = .ok (.ifCond .le 7, 3) := by decide +kernel
theorem dX11_takeWay_324 : decode cX11_takeWay 324 = .ok (.iload_n 2, 1) := by decide +kernel
theorem dX11_takeWay_325 : decode cX11_takeWay 325 = .ok (.goto 7, 3) := by decide +kernel
theorem dX11_takeWay_328 : decode cX11_takeWay 328 = .ok (.aload_n 0, 1) := by decide +kernel
theorem dX11_takeWay_329 : decode cX11_takeWay 329 = .ok (.invokevirtual 207, 3) := by decide +kernel
theorem dX11_takeWay_332 : decode cX11_takeWay 332 = .ok (.ireturn, 1) := by decide +kernel
theorem dX11_takeClause_0 : decode cX11_takeClause 0 = .ok (.aload_n 0, 1) := by decide +kernel
theorem dX11_takeClause_1 : decode cX11_takeClause 1 = .ok (.invokevirtual 190, 3) := by decide +kernel
theorem dX11_takeClause_4 : decode cX11_takeClause 4 = .ok (.aload_n 0, 1) := by decide +kernel
theorem dX11_takeClause_5 : decode cX11_takeClause 5 = .ok (.getfield 157, 3) := by decide +kernel
theorem dX11_takeClause_8 : decode cX11_takeClause 8 = .ok (.bipush 111, 2) := by decide +kernel
theorem dX11_takeClause_10 : decode cX11_takeClause 10 = .ok (.bipush 117, 2) := by decide +kernel
theorem dX11_takeClause_12 : decode cX11_takeClause 12 = .ok (.bipush 116, 2) := by decide +kernel
theorem dX11_takeClause_14 : decode cX11_takeClause 14 = .ok (.invokestatic 193, 3) := by decide +kernel
theorem dX11_takeClause_17 : decode cX11_takeClause 17 = .ok (.lcmp, 1) := by decide +kernel
theorem dX11_takeClause_18 : decode cX11_takeClause 18 = .ok (.ifCond .ne 8, 3) := by decide +kernel
theorem dX11_takeClause_21 : decode cX11_takeClause 21 = .ok (.aload_n 0, 1) := by decide +kernel
theorem dX11_takeClause_22 : decode cX11_takeClause 22 = .ok (.invokevirtual 222, 3) := by decide +kernel
theorem dX11_takeClause_25 : decode cX11_takeClause 25 = .ok (.ireturn, 1) := by decide +kernel
theorem dX11_takeClause_26 : decode cX11_takeClause 26 = .ok (.aload_n 0, 1) := by decide +kernel
theorem dX11_takeClause_27 : decode cX11_takeClause 27 = .ok (.getfield 157, 3) := by decide +kernel
theorem dX11_takeClause_30 : decode cX11_takeClause 30 = .ok (.bipush 119, 2) := by decide +kernel
theorem dX11_takeClause_32 : decode cX11_takeClause 32 = .ok (.bipush 97, 2) := by decide +kernel
theorem dX11_takeClause_34 : decode cX11_takeClause 34 = .ok (.bipush 121, 2) := by decide +kernel
theorem dX11_takeClause_36 : decode cX11_takeClause 36 = .ok (.invokestatic 193, 3) := by decide +kernel
theorem dX11_takeClause_39 : decode cX11_takeClause 39 = .ok (.lcmp, 1) := by decide +kernel
theorem dX11_takeClause_40 : decode cX11_takeClause 40 = .ok (.ifCond .ne 10, 3) := by decide +kernel
theorem dX11_takeClause_43 : decode cX11_takeClause 43 = .ok (.aload_n 0, 1) := by decide +kernel
theorem dX11_takeClause_44 : decode cX11_takeClause 44 = .ok (.invokevirtual 225, 3) := by decide +kernel
theorem dX11_takeClause_47 : decode cX11_takeClause 47 = .ok (.goto 12, 3) := by decide +kernel
theorem dX11_takeClause_50 : decode cX11_takeClause 50 = .ok (.aload_n 0, 1) := by decide +kernel
theorem dX11_takeClause_51 : decode cX11_takeClause 51 = .ok (.iconst 1, 1) := by decide +kernel
theorem dX11_takeClause_52 : decode cX11_takeClause 52 = .ok (.aload_n 0, 1) := by decide +kernel
theorem dX11_takeClause_53 : decode cX11_takeClause 53 = .ok (.getfield 150, 3) := by decide +kernel
theorem dX11_takeClause_56 : decode cX11_takeClause 56 = .ok (.invokevirtual 180, 3) := by decide +kernel
theorem dX11_takeClause_59 : decode cX11_takeClause 59 = .ok (.ireturn, 1) := by decide +kernel
theorem dX11_pit_0 : decode cX11_pit 0 = .ok (.aload_n 0, 1) := by decide +kernel
theorem dX11_pit_1 : decode cX11_pit 1 = .ok (.iconst (-1), 1) := by decide +kernel
theorem dX11_pit_2 : decode cX11_pit 2 = .ok (.putfield 42, 3) := by decide +kernel
theorem dX11_pit_5 : decode cX11_pit 5 = .ok (.aload_n 0, 1) := by decide +kernel
theorem dX11_pit_6 : decode cX11_pit 6 = .ok (.iconst 0, 1) := by decide +kernel
theorem dX11_pit_7 : decode cX11_pit 7 = .ok (.putfield 150, 3) := by decide +kernel
theorem dX11_pit_10 : decode cX11_pit 10 = .ok (.aload_n 0, 1) := by decide +kernel
theorem dX11_pit_11 : decode cX11_pit 11 = .ok (.iconst 0, 1) := by decide +kernel
theorem dX11_pit_12 : decode cX11_pit 12 = .ok (.putfield 204, 3) := by decide +kernel
theorem dX11_pit_15 : decode cX11_pit 15 = .ok (.aload_n 0, 1) := by decide +kernel
theorem dX11_pit_16 : decode cX11_pit 16 = .ok (.iconst (-1), 1) := by decide +kernel
theorem dX11_pit_17 : decode cX11_pit 17 = .ok (.putfield 210, 3) := by decide +kernel
theorem dX11_pit_20 : decode cX11_pit 20 = .ok (.aload_n 0, 1) := by decide +kernel
theorem dX11_pit_21 : decode cX11_pit 21 = .ok (.iconst 0, 1) := by decide +kernel
theorem dX11_pit_22 : decode cX11_pit 22 = .ok (.putfield 216, 3) := by decide +kernel
theorem dX11_pit_25 : decode cX11_pit 25 = .ok (.aload_n 0, 1) := by decide +kernel
theorem dX11_pit_26 : decode cX11_pit 26 = .ok (.invokevirtual 228, 3) := by decide +kernel
theorem dX11_pit_29 : decode cX11_pit 29 = .ok (.istore_n 1, 1) := by decide +kernel
theorem dX11_pit_30 : decode cX11_pit 30 = .ok (.iload_n 1, 1) := by decide +kernel
theorem dX11_pit_31 : decode cX11_pit 31 = .ok (.ifCond .ne 18, 3) := by decide +kernel
theorem dX11_pit_34 : decode cX11_pit 34 = .ok (.aload_n 0, 1) := by decide +kernel
theorem dX11_pit_35 : decode cX11_pit 35 = .ok (.invokevirtual 153, 3) := by decide +kernel
theorem dX11_pit_38 : decode cX11_pit 38 = .ok (.ifCond .lt 11, 3) := by decide +kernel
theorem dX11_pit_41 : decode cX11_pit 41 = .ok (.aload_n 0, 1) := by decide +kernel
theorem dX11_pit_42 : decode cX11_pit 42 = .ok (.invokevirtual 231, 3) := by decide +kernel
theorem dX11_pit_45 : decode cX11_pit 45 = .ok (.istore_n 1, 1) := by decide +kernel
theorem dX11_pit_46 : decode cX11_pit 46 = .ok (.goto (-16), 3) := by decide +kernel
theorem dX11_pit_49 : decode cX11_pit 49 = .ok (.iload_n 1, 1) := by decide +kernel
theorem dX11_pit_50 : decode cX11_pit 50 = .ok (.ifCond .ne 22, 3) := by decide +kernel
theorem dX11_pit_53 : decode cX11_pit 53 = .ok (.aload_n 0, 1) := by decide +kernel
theorem dX11_pit_54 : decode cX11_pit 54 = .ok (.getfield 210, 3) := by decide +kernel
theorem dX11_pit_57 : decode cX11_pit 57 = .ok (.ifCond .ge 15, 3) := by decide +kernel
theorem dX11_pit_60 : decode cX11_pit 60 = .ok (.aload_n 0, 1) := by decide +kernel
theorem dX11_pit_61 : decode cX11_pit 61 = .ok (.iconst 1, 1) := by decide +kernel
theorem dX11_pit_62 : decode cX11_pit 62 = .ok (.aload_n 0, 1) := by decide +kernel
theorem dX11_pit_63 : decode cX11_pit 63 = .ok (.getfield 145, 3) := by decide +kernel
theorem dX11_pit_66 : decode cX11_pit 66 = .ok (.invokevirtual 180, 3) := by decide +kernel
theorem dX11_pit_69 : decode cX11_pit 69 = .ok (.goto 4, 3) := by decide +kernel
theorem dX11_pit_72 : decode cX11_pit 72 = .ok (.iload_n 1, 1) := by decide +kernel
theorem dX11_pit_73 : decode cX11_pit 73 = .ok (.istore_n 1, 1) := by decide +kernel
theorem dX11_pit_74 : decode cX11_pit 74 = .ok (.aload_n 0, 1) := by decide +kernel
theorem dX11_pit_75 : decode cX11_pit 75 = .ok (.iconst 0, 1) := by decide +kernel
theorem dX11_pit_76 : decode cX11_pit 76 = .ok (.putfield 145, 3) := by decide +kernel
theorem dX11_pit_79 : decode cX11_pit 79 = .ok (.iload_n 1, 1) := by decide +kernel
theorem dX11_pit_80 : decode cX11_pit 80 = .ok (.ifCond .le 8, 3) := by decide +kernel
theorem dX11_pit_83 : decode cX11_pit 83 = .ok (.bipush (-10), 2) := by decide +kernel
theorem dX11_pit_85 : decode cX11_pit 85 = .ok (.iload_n 1, 1) := by decide +kernel
theorem dX11_pit_86 : decode cX11_pit 86 = .ok (.isub, 1) := by decide +kernel
theorem dX11_pit_87 : decode cX11_pit 87 = .ok (.ireturn, 1) := by decide +kernel
theorem dX11_pit_88 : decode cX11_pit 88 = .ok (.aload_n 0, 1) := by decide +kernel
theorem dX11_pit_89 : decode cX11_pit 89 = .ok (.invokevirtual 234, 3) := by decide +kernel
theorem dX11_pit_92 : decode cX11_pit 92 = .ok (.aload_n 0, 1) := by decide +kernel
theorem dX11_pit_93 : decode cX11_pit 93 = .ok (.getfield 140, 3) := by decide +kernel
theorem dX11_pit_96 : decode cX11_pit 96 = .ok (.ireturn, 1) := by decide +kernel
theorem dX11_keepPit_0 : decode cX11_keepPit 0 = .ok (.aload_n 0, 1) := by decide +kernel
theorem dX11_keepPit_1 : decode cX11_keepPit 1 = .ok (.aload_n 0, 1) := by decide +kernel
theorem dX11_keepPit_2 : decode cX11_keepPit 2 = .ok (.getfield 204, 3) := by decide +kernel
theorem dX11_keepPit_5 : decode cX11_keepPit 5 = .ok (.putfield 133, 3) := by decide +kernel
theorem dX11_keepPit_8 : decode cX11_keepPit 8 = .ok (.aload_n 0, 1) := by decide +kernel
theorem dX11_keepPit_9 : decode cX11_keepPit 9 = .ok (.aload_n 0, 1) := by decide +kernel
theorem dX11_keepPit_10 : decode cX11_keepPit 10 = .ok (.getfield 210, 3) := by decide +kernel
theorem dX11_keepPit_13 : decode cX11_keepPit 13 = .ok (.putfield 9, 3) := by decide +kernel
theorem dX11_keepPit_16 : decode cX11_keepPit 16 = .ok (.aload_n 0, 1) := by decide +kernel
theorem dX11_keepPit_17 : decode cX11_keepPit 17 = .ok (.aload_n 0, 1) := by decide +kernel
theorem dX11_keepPit_18 : decode cX11_keepPit 18 = .ok (.getfield 213, 3) := by decide +kernel
theorem dX11_keepPit_21 : decode cX11_keepPit 21 = .ok (.putfield 237, 3) := by decide +kernel
theorem dX11_keepPit_24 : decode cX11_keepPit 24 = .ok (.aload_n 0, 1) := by decide +kernel
theorem dX11_keepPit_25 : decode cX11_keepPit 25 = .ok (.aload_n 0, 1) := by decide +kernel
theorem dX11_keepPit_26 : decode cX11_keepPit 26 = .ok (.getfield 216, 3) := by decide +kernel
theorem dX11_keepPit_29 : decode cX11_keepPit 29 = .ok (.putfield 140, 3) := by decide +kernel
theorem dX11_keepPit_32 : decode cX11_keepPit 32 = .ok (.iconst 0, 1) := by decide +kernel
theorem dX11_keepPit_33 : decode cX11_keepPit 33 = .ok (.istore_n 1, 1) := by decide +kernel
theorem dX11_keepPit_34 : decode cX11_keepPit 34 = .ok (.iload_n 1, 1) := by decide +kernel
theorem dX11_keepPit_35 : decode cX11_keepPit 35 = .ok (.aload_n 0, 1) := by decide +kernel
theorem dX11_keepPit_36 : decode cX11_keepPit 36 = .ok (.getfield 140, 3) := by decide +kernel
theorem dX11_keepPit_39 : decode cX11_keepPit 39 = .ok (.if_icmp .ge 134, 3) := by decide +kernel
theorem dX11_keepPit_42 : decode cX11_keepPit 42 = .ok (.aload_n 0, 1) := by decide +kernel
theorem dX11_keepPit_43 : decode cX11_keepPit 43 = .ok (.getfield 13, 3) := by decide +kernel
theorem dX11_keepPit_46 : decode cX11_keepPit 46 = .ok (.iload_n 1, 1) := by decide +kernel
theorem dX11_keepPit_47 : decode cX11_keepPit 47 = .ok (.aload_n 0, 1) := by decide +kernel
theorem dX11_keepPit_48 : decode cX11_keepPit 48 = .ok (.getfield 45, 3) := by decide +kernel
theorem dX11_keepPit_51 : decode cX11_keepPit 51 = .ok (.bipush 7, 2) := by decide +kernel
theorem dX11_keepPit_53 : decode cX11_keepPit 53 = .ok (.iload_n 1, 1) := by decide +kernel
theorem dX11_keepPit_54 : decode cX11_keepPit 54 = .ok (.imul, 1) := by decide +kernel
theorem dX11_keepPit_55 : decode cX11_keepPit 55 = .ok (.iaload, 1) := by decide +kernel
theorem dX11_keepPit_56 : decode cX11_keepPit 56 = .ok (.iastore, 1) := by decide +kernel
theorem dX11_keepPit_57 : decode cX11_keepPit 57 = .ok (.aload_n 0, 1) := by decide +kernel
theorem dX11_keepPit_58 : decode cX11_keepPit 58 = .ok (.getfield 17, 3) := by decide +kernel
theorem dX11_keepPit_61 : decode cX11_keepPit 61 = .ok (.iload_n 1, 1) := by decide +kernel
theorem dX11_keepPit_62 : decode cX11_keepPit 62 = .ok (.aload_n 0, 1) := by decide +kernel
theorem dX11_keepPit_63 : decode cX11_keepPit 63 = .ok (.getfield 45, 3) := by decide +kernel
theorem dX11_keepPit_66 : decode cX11_keepPit 66 = .ok (.bipush 7, 2) := by decide +kernel
theorem dX11_keepPit_68 : decode cX11_keepPit 68 = .ok (.iload_n 1, 1) := by decide +kernel
theorem dX11_keepPit_69 : decode cX11_keepPit 69 = .ok (.imul, 1) := by decide +kernel
theorem dX11_keepPit_70 : decode cX11_keepPit 70 = .ok (.iconst 1, 1) := by decide +kernel
theorem dX11_keepPit_71 : decode cX11_keepPit 71 = .ok (.iadd, 1) := by decide +kernel
theorem dX11_keepPit_72 : decode cX11_keepPit 72 = .ok (.iaload, 1) := by decide +kernel
theorem dX11_keepPit_73 : decode cX11_keepPit 73 = .ok (.iastore, 1) := by decide +kernel
theorem dX11_keepPit_74 : decode cX11_keepPit 74 = .ok (.aload_n 0, 1) := by decide +kernel
theorem dX11_keepPit_75 : decode cX11_keepPit 75 = .ok (.getfield 20, 3) := by decide +kernel
theorem dX11_keepPit_78 : decode cX11_keepPit 78 = .ok (.iload_n 1, 1) := by decide +kernel
theorem dX11_keepPit_79 : decode cX11_keepPit 79 = .ok (.aload_n 0, 1) := by decide +kernel
theorem dX11_keepPit_80 : decode cX11_keepPit 80 = .ok (.getfield 45, 3) := by decide +kernel
theorem dX11_keepPit_83 : decode cX11_keepPit 83 = .ok (.bipush 7, 2) := by decide +kernel
theorem dX11_keepPit_85 : decode cX11_keepPit 85 = .ok (.iload_n 1, 1) := by decide +kernel
theorem dX11_keepPit_86 : decode cX11_keepPit 86 = .ok (.imul, 1) := by decide +kernel
theorem dX11_keepPit_87 : decode cX11_keepPit 87 = .ok (.iconst 2, 1) := by decide +kernel
theorem dX11_keepPit_88 : decode cX11_keepPit 88 = .ok (.iadd, 1) := by decide +kernel
theorem dX11_keepPit_89 : decode cX11_keepPit 89 = .ok (.iaload, 1) := by decide +kernel
theorem dX11_keepPit_90 : decode cX11_keepPit 90 = .ok (.iastore, 1) := by decide +kernel
theorem dX11_keepPit_91 : decode cX11_keepPit 91 = .ok (.aload_n 0, 1) := by decide +kernel
theorem dX11_keepPit_92 : decode cX11_keepPit 92 = .ok (.getfield 23, 3) := by decide +kernel
theorem dX11_keepPit_95 : decode cX11_keepPit 95 = .ok (.iload_n 1, 1) := by decide +kernel
theorem dX11_keepPit_96 : decode cX11_keepPit 96 = .ok (.aload_n 0, 1) := by decide +kernel
theorem dX11_keepPit_97 : decode cX11_keepPit 97 = .ok (.getfield 45, 3) := by decide +kernel
theorem dX11_keepPit_100 : decode cX11_keepPit 100 = .ok (.bipush 7, 2) := by decide +kernel
theorem dX11_keepPit_102 : decode cX11_keepPit 102 = .ok (.iload_n 1, 1) := by decide +kernel
theorem dX11_keepPit_103 : decode cX11_keepPit 103 = .ok (.imul, 1) := by decide +kernel
theorem dX11_keepPit_104 : decode cX11_keepPit 104 = .ok (.iconst 3, 1) := by decide +kernel
theorem dX11_keepPit_105 : decode cX11_keepPit 105 = .ok (.iadd, 1) := by decide +kernel
theorem dX11_keepPit_106 : decode cX11_keepPit 106 = .ok (.iaload, 1) := by decide +kernel
theorem dX11_keepPit_107 : decode cX11_keepPit 107 = .ok (.iastore, 1) := by decide +kernel
theorem dX11_keepPit_108 : decode cX11_keepPit 108 = .ok (.aload_n 0, 1) := by decide +kernel
theorem dX11_keepPit_109 : decode cX11_keepPit 109 = .ok (.getfield 26, 3) := by decide +kernel
theorem dX11_keepPit_112 : decode cX11_keepPit 112 = .ok (.iload_n 1, 1) := by decide +kernel
theorem dX11_keepPit_113 : decode cX11_keepPit 113 = .ok (.aload_n 0, 1) := by decide +kernel
theorem dX11_keepPit_114 : decode cX11_keepPit 114 = .ok (.getfield 45, 3) := by decide +kernel
theorem dX11_keepPit_117 : decode cX11_keepPit 117 = .ok (.bipush 7, 2) := by decide +kernel
theorem dX11_keepPit_119 : decode cX11_keepPit 119 = .ok (.iload_n 1, 1) := by decide +kernel
theorem dX11_keepPit_120 : decode cX11_keepPit 120 = .ok (.imul, 1) := by decide +kernel
theorem dX11_keepPit_121 : decode cX11_keepPit 121 = .ok (.iconst 4, 1) := by decide +kernel
theorem dX11_keepPit_122 : decode cX11_keepPit 122 = .ok (.iadd, 1) := by decide +kernel
theorem dX11_keepPit_123 : decode cX11_keepPit 123 = .ok (.iaload, 1) := by decide +kernel
theorem dX11_keepPit_124 : decode cX11_keepPit 124 = .ok (.iastore, 1) := by decide +kernel
theorem dX11_keepPit_125 : decode cX11_keepPit 125 = .ok (.aload_n 0, 1) := by decide +kernel
theorem dX11_keepPit_126 : decode cX11_keepPit 126 = .ok (.getfield 29, 3) := by decide +kernel
theorem dX11_keepPit_129 : decode cX11_keepPit 129 = .ok (.iload_n 1, 1) := by decide +kernel
theorem dX11_keepPit_130 : decode cX11_keepPit 130 = .ok (.aload_n 0, 1) := by decide +kernel
theorem dX11_keepPit_131 : decode cX11_keepPit 131 = .ok (.getfield 45, 3) := by decide +kernel
theorem dX11_keepPit_134 : decode cX11_keepPit 134 = .ok (.bipush 7, 2) := by decide +kernel
theorem dX11_keepPit_136 : decode cX11_keepPit 136 = .ok (.iload_n 1, 1) := by decide +kernel
theorem dX11_keepPit_137 : decode cX11_keepPit 137 = .ok (.imul, 1) := by decide +kernel
theorem dX11_keepPit_138 : decode cX11_keepPit 138 = .ok (.iconst 5, 1) := by decide +kernel
theorem dX11_keepPit_139 : decode cX11_keepPit 139 = .ok (.iadd, 1) := by decide +kernel
theorem dX11_keepPit_140 : decode cX11_keepPit 140 = .ok (.iaload, 1) := by decide +kernel
theorem dX11_keepPit_141 : decode cX11_keepPit 141 = .ok (.iastore, 1) := by decide +kernel
theorem dX11_keepPit_142 : decode cX11_keepPit 142 = .ok (.aload_n 0, 1) := by decide +kernel
theorem dX11_keepPit_143 : decode cX11_keepPit 143 = .ok (.getfield 32, 3) := by decide +kernel
theorem dX11_keepPit_146 : decode cX11_keepPit 146 = .ok (.iload_n 1, 1) := by decide +kernel
theorem dX11_keepPit_147 : decode cX11_keepPit 147 = .ok (.aload_n 0, 1) := by decide +kernel
theorem dX11_keepPit_148 : decode cX11_keepPit 148 = .ok (.getfield 45, 3) := by decide +kernel
theorem dX11_keepPit_151 : decode cX11_keepPit 151 = .ok (.bipush 7, 2) := by decide +kernel
theorem dX11_keepPit_153 : decode cX11_keepPit 153 = .ok (.iload_n 1, 1) := by decide +kernel
theorem dX11_keepPit_154 : decode cX11_keepPit 154 = .ok (.imul, 1) := by decide +kernel
theorem dX11_keepPit_155 : decode cX11_keepPit 155 = .ok (.bipush 6, 2) := by decide +kernel
theorem dX11_keepPit_157 : decode cX11_keepPit 157 = .ok (.iadd, 1) := by decide +kernel
theorem dX11_keepPit_158 : decode cX11_keepPit 158 = .ok (.iaload, 1) := by decide +kernel
theorem dX11_keepPit_159 : decode cX11_keepPit 159 = .ok (.iastore, 1) := by decide +kernel
theorem dX11_keepPit_160 : decode cX11_keepPit 160 = .ok (.aload_n 0, 1) := by decide +kernel
theorem dX11_keepPit_161 : decode cX11_keepPit 161 = .ok (.getfield 35, 3) := by decide +kernel
theorem dX11_keepPit_164 : decode cX11_keepPit 164 = .ok (.iload_n 1, 1) := by decide +kernel
theorem dX11_keepPit_165 : decode cX11_keepPit 165 = .ok (.iconst 0, 1) := by decide +kernel
theorem dX11_keepPit_166 : decode cX11_keepPit 166 = .ok (.bastore, 1) := by decide +kernel
theorem dX11_keepPit_167 : decode cX11_keepPit 167 = .ok (.iinc 1 1, 3) := by decide +kernel
theorem dX11_keepPit_170 : decode cX11_keepPit 170 = .ok (.goto (-136), 3) := by decide +kernel
theorem dX11_keepPit_173 : decode cX11_keepPit 173 = .ok (.aload_n 0, 1) := by decide +kernel
theorem dX11_keepPit_174 : decode cX11_keepPit 174 = .ok (.iconst 0, 1) := by decide +kernel
theorem dX11_keepPit_175 : decode cX11_keepPit 175 = .ok (.putfield 240, 3) := by decide +kernel
theorem dX11_keepPit_178 : decode cX11_keepPit 178 = .ok (.aload_n 0, 1) := by decide +kernel
theorem dX11_keepPit_179 : decode cX11_keepPit 179 = .ok (.iconst 0, 1) := by decide +kernel
theorem dX11_keepPit_180 : decode cX11_keepPit 180 = .ok (.putfield 243, 3) := by decide +kernel
theorem dX11_keepPit_183 : decode cX11_keepPit 183 = .ok (.aload_n 0, 1) := by decide +kernel
theorem dX11_keepPit_184 : decode cX11_keepPit 184 = .ok (.iconst 0, 1) := by decide +kernel
theorem dX11_keepPit_185 : decode cX11_keepPit 185 = .ok (.putfield 246, 3) := by decide +kernel
theorem dX11_keepPit_188 : decode cX11_keepPit 188 = .ok (.aload_n 0, 1) := by decide +kernel
theorem dX11_keepPit_189 : decode cX11_keepPit 189 = .ok (.getfield 130, 3) := by decide +kernel
theorem dX11_keepPit_192 : decode cX11_keepPit 192 = .ok (.iconst 0, 1) := by decide +kernel
theorem dX11_keepPit_193 : decode cX11_keepPit 193 = .ok (.iconst 0, 1) := by decide +kernel
theorem dX11_keepPit_194 : decode cX11_keepPit 194 = .ok (.bastore, 1) := by decide +kernel
theorem dX11_keepPit_195 : decode cX11_keepPit 195 = .ok (.aload_n 0, 1) := by decide +kernel
theorem dX11_keepPit_196 : decode cX11_keepPit 196 = .ok (.getfield 130, 3) := by decide +kernel
theorem dX11_keepPit_199 : decode cX11_keepPit 199 = .ok (.iconst 1, 1) := by decide +kernel
theorem dX11_keepPit_200 : decode cX11_keepPit 200 = .ok (.iconst 0, 1) := by decide +kernel
theorem dX11_keepPit_201 : decode cX11_keepPit 201 = .ok (.bastore, 1) := by decide +kernel
theorem dX11_keepPit_202 : decode cX11_keepPit 202 = .ok (.return_, 1) := by decide +kernel
theorem dX11_fault_0 : decode cX11_fault 0 = .ok (.aload_n 0, 1) := by decide +kernel
theorem dX11_fault_1 : decode cX11_fault 1 = .ok (.getfield 42, 3) := by decide +kernel
theorem dX11_fault_4 : decode cX11_fault 4 = .ok (.ireturn, 1) := by decide +kernel
theorem dX11_way_0 : decode cX11_way 0 = .ok (.aload_n 0, 1) := by decide +kernel
theorem dX11_way_1 : decode cX11_way 1 = .ok (.iload_n 1, 1) := by decide +kernel
theorem dX11_way_2 : decode cX11_way 2 = .ok (.invokevirtual 249, 3) := by decide +kernel
theorem dX11_way_5 : decode cX11_way 5 = .ok (.ifCond .ne 7, 3) := by decide +kernel
theorem dX11_way_8 : decode cX11_way 8 = .ok (.sipush (-1001), 3) := by decide +kernel
theorem dX11_way_11 : decode cX11_way 11 = .ok (.ireturn, 1) := by decide +kernel
theorem dX11_way_12 : decode cX11_way 12 = .ok (.iload_n 2, 1) := by decide +kernel
theorem dX11_way_13 : decode cX11_way 13 = .ok (.tableswitch 111 0 7 #[47, 54, 61, 68, 75, 82, 89, 96], 47) := by decide +kernel
theorem dX11_way_60 : decode cX11_way 60 = .ok (.aload_n 0, 1) := by decide +kernel
theorem dX11_way_61 : decode cX11_way 61 = .ok (.getfield 13, 3) := by decide +kernel
theorem dX11_way_64 : decode cX11_way 64 = .ok (.iload_n 1, 1) := by decide +kernel
theorem dX11_way_65 : decode cX11_way 65 = .ok (.iaload, 1) := by decide +kernel
theorem dX11_way_66 : decode cX11_way 66 = .ok (.ireturn, 1) := by decide +kernel
theorem dX11_way_67 : decode cX11_way 67 = .ok (.aload_n 0, 1) := by decide +kernel
theorem dX11_way_68 : decode cX11_way 68 = .ok (.getfield 17, 3) := by decide +kernel
theorem dX11_way_71 : decode cX11_way 71 = .ok (.iload_n 1, 1) := by decide +kernel
theorem dX11_way_72 : decode cX11_way 72 = .ok (.iaload, 1) := by decide +kernel
theorem dX11_way_73 : decode cX11_way 73 = .ok (.ireturn, 1) := by decide +kernel
theorem dX11_way_74 : decode cX11_way 74 = .ok (.aload_n 0, 1) := by decide +kernel
theorem dX11_way_75 : decode cX11_way 75 = .ok (.getfield 20, 3) := by decide +kernel
theorem dX11_way_78 : decode cX11_way 78 = .ok (.iload_n 1, 1) := by decide +kernel
theorem dX11_way_79 : decode cX11_way 79 = .ok (.iaload, 1) := by decide +kernel
theorem dX11_way_80 : decode cX11_way 80 = .ok (.ireturn, 1) := by decide +kernel
theorem dX11_way_81 : decode cX11_way 81 = .ok (.aload_n 0, 1) := by decide +kernel
theorem dX11_way_82 : decode cX11_way 82 = .ok (.getfield 23, 3) := by decide +kernel
theorem dX11_way_85 : decode cX11_way 85 = .ok (.iload_n 1, 1) := by decide +kernel
theorem dX11_way_86 : decode cX11_way 86 = .ok (.iaload, 1) := by decide +kernel
theorem dX11_way_87 : decode cX11_way 87 = .ok (.ireturn, 1) := by decide +kernel
theorem dX11_way_88 : decode cX11_way 88 = .ok (.aload_n 0, 1) := by decide +kernel
theorem dX11_way_89 : decode cX11_way 89 = .ok (.getfield 26, 3) := by decide +kernel
theorem dX11_way_92 : decode cX11_way 92 = .ok (.iload_n 1, 1) := by decide +kernel
theorem dX11_way_93 : decode cX11_way 93 = .ok (.iaload, 1) := by decide +kernel
theorem dX11_way_94 : decode cX11_way 94 = .ok (.ireturn, 1) := by decide +kernel
theorem dX11_way_95 : decode cX11_way 95 = .ok (.aload_n 0, 1) := by decide +kernel
theorem dX11_way_96 : decode cX11_way 96 = .ok (.getfield 29, 3) := by decide +kernel
theorem dX11_way_99 : decode cX11_way 99 = .ok (.iload_n 1, 1) := by decide +kernel
theorem dX11_way_100 : decode cX11_way 100 = .ok (.iaload, 1) := by decide +kernel
theorem dX11_way_101 : decode cX11_way 101 = .ok (.ireturn, 1) := by decide +kernel
theorem dX11_way_102 : decode cX11_way 102 = .ok (.aload_n 0, 1) := by decide +kernel
theorem dX11_way_103 : decode cX11_way 103 = .ok (.getfield 32, 3) := by decide +kernel
theorem dX11_way_106 : decode cX11_way 106 = .ok (.iload_n 1, 1) := by decide +kernel
theorem dX11_way_107 : decode cX11_way 107 = .ok (.iaload, 1) := by decide +kernel
theorem dX11_way_108 : decode cX11_way 108 = .ok (.ireturn, 1) := by decide +kernel
theorem dX11_way_109 : decode cX11_way 109 = .ok (.aload_n 0, 1) := by decide +kernel
theorem dX11_way_110 : decode cX11_way 110 = .ok (.getfield 35, 3) := by decide +kernel
theorem dX11_way_113 : decode cX11_way 113 = .ok (.iload_n 1, 1) := by decide +kernel
theorem dX11_way_114 : decode cX11_way 114 = .ok (.baload, 1) := by decide +kernel
theorem dX11_way_115 : decode cX11_way 115 = .ok (.ifCond .eq 7, 3) := by decide +kernel
theorem dX11_way_118 : decode cX11_way 118 = .ok (.iconst 1, 1) := by decide +kernel
theorem dX11_way_119 : decode cX11_way 119 = .ok (.goto 4, 3) := by decide +kernel
theorem dX11_way_122 : decode cX11_way 122 = .ok (.iconst 0, 1) := by decide +kernel
theorem dX11_way_123 : decode cX11_way 123 = .ok (.ireturn, 1) := by decide +kernel
theorem dX11_way_124 : decode cX11_way 124 = .ok (.sipush (-1002), 3) := by decide +kernel
theorem dX11_way_127 : decode cX11_way 127 = .ok (.ireturn, 1) := by decide +kernel
theorem dX11_fall_0 : decode cX11_fall 0 = .ok (.aload_n 0, 1) := by decide +kernel
theorem dX11_fall_1 : decode cX11_fall 1 = .ok (.iload_n 1, 1) := by decide +kernel
theorem dX11_fall_2 : decode cX11_fall 2 = .ok (.invokevirtual 249, 3) := by decide +kernel
theorem dX11_fall_5 : decode cX11_fall 5 = .ok (.ifCond .ne 7, 3) := by decide +kernel
theorem dX11_fall_8 : decode cX11_fall 8 = .ok (.sipush (-1001), 3) := by decide +kernel
theorem dX11_fall_11 : decode cX11_fall 11 = .ok (.ireturn, 1) := by decide +kernel
theorem dX11_fall_12 : decode cX11_fall 12 = .ok (.aload_n 0, 1) := by decide +kernel
theorem dX11_fall_13 : decode cX11_fall 13 = .ok (.getfield 35, 3) := by decide +kernel
theorem dX11_fall_16 : decode cX11_fall 16 = .ok (.iload_n 1, 1) := by decide +kernel
theorem dX11_fall_17 : decode cX11_fall 17 = .ok (.baload, 1) := by decide +kernel
theorem dX11_fall_18 : decode cX11_fall 18 = .ok (.ifCond .eq 7, 3) := by decide +kernel
theorem dX11_fall_21 : decode cX11_fall 21 = .ok (.iconst 1, 1) := by decide +kernel
theorem dX11_fall_22 : decode cX11_fall 22 = .ok (.goto 4, 3) := by decide +kernel
theorem dX11_fall_25 : decode cX11_fall 25 = .ok (.iconst 0, 1) := by decide +kernel
theorem dX11_fall_26 : decode cX11_fall 26 = .ok (.istore_n 3, 1) := by decide +kernel
theorem dX11_fall_27 : decode cX11_fall 27 = .ok (.aload_n 0, 1) := by decide +kernel
theorem dX11_fall_28 : decode cX11_fall 28 = .ok (.getfield 35, 3) := by decide +kernel
theorem dX11_fall_31 : decode cX11_fall 31 = .ok (.iload_n 1, 1) := by decide +kernel
theorem dX11_fall_32 : decode cX11_fall 32 = .ok (.iload_n 2, 1) := by decide +kernel
theorem dX11_fall_33 : decode cX11_fall 33 = .ok (.bastore, 1) := by decide +kernel
theorem dX11_fall_34 : decode cX11_fall 34 = .ok (.iload_n 3, 1) := by decide +kernel
theorem dX11_fall_35 : decode cX11_fall 35 = .ok (.ireturn, 1) := by decide +kernel
theorem dX11_isMan_0 : decode cX11_isMan 0 = .ok (.iload_n 1, 1) := by decide +kernel
theorem dX11_isMan_1 : decode cX11_isMan 1 = .ok (.i2l, 1) := by decide +kernel
theorem dX11_isMan_2 : decode cX11_isMan 2 = .ok (.lconst 0, 1) := by decide +kernel
theorem dX11_isMan_3 : decode cX11_isMan 3 = .ok (.aload_n 0, 1) := by decide +kernel
theorem dX11_isMan_4 : decode cX11_isMan 4 = .ok (.getfield 240, 3) := by decide +kernel
theorem dX11_isMan_7 : decode cX11_isMan 7 = .ok (.iconst 1, 1) := by decide +kernel
theorem dX11_isMan_8 : decode cX11_isMan 8 = .ok (.isub, 1) := by decide +kernel
theorem dX11_isMan_9 : decode cX11_isMan 9 = .ok (.i2l, 1) := by decide +kernel
theorem dX11_isMan_10 : decode cX11_isMan 10 = .ok (.invokestatic 136, 3) := by decide +kernel
theorem dX11_isMan_13 : decode cX11_isMan 13 = .ok (.ireturn, 1) := by decide +kernel
theorem dX11_isLamp_0 : decode cX11_isLamp 0 = .ok (.iload_n 1, 1) := by decide +kernel
theorem dX11_isLamp_1 : decode cX11_isLamp 1 = .ok (.i2l, 1) := by decide +kernel
theorem dX11_isLamp_2 : decode cX11_isLamp 2 = .ok (.lconst 0, 1) := by decide +kernel
theorem dX11_isLamp_3 : decode cX11_isLamp 3 = .ok (.aload_n 0, 1) := by decide +kernel
theorem dX11_isLamp_4 : decode cX11_isLamp 4 = .ok (.getfield 243, 3) := by decide +kernel
theorem dX11_isLamp_7 : decode cX11_isLamp 7 = .ok (.iconst 1, 1) := by decide +kernel
theorem dX11_isLamp_8 : decode cX11_isLamp 8 = .ok (.isub, 1) := by decide +kernel
theorem dX11_isLamp_9 : decode cX11_isLamp 9 = .ok (.i2l, 1) := by decide +kernel
theorem dX11_isLamp_10 : decode cX11_isLamp 10 = .ok (.invokestatic 136, 3) := by decide +kernel
theorem dX11_isLamp_13 : decode cX11_isLamp 13 = .ok (.ireturn, 1) := by decide +kernel
theorem dX11_isMinute_0 : decode cX11_isMinute 0 = .ok (.iload_n 0, 1) := by decide +kernel
theorem dX11_isMinute_1 : decode cX11_isMinute 1 = .ok (.i2l, 1) := by decide +kernel
theorem dX11_isMinute_2 : decode cX11_isMinute 2 = .ok (.lconst 0, 1) := by decide +kernel
theorem dX11_isMinute_3 : decode cX11_isMinute 3 = .ok (.ldc2_w 253, 3) := by decide +kernel
theorem dX11_isMinute_6 : decode cX11_isMinute 6 = .ok (.invokestatic 136, 3) := by decide +kernel
theorem dX11_isMinute_9 : decode cX11_isMinute 9 = .ok (.ireturn, 1) := by decide +kernel
theorem dX11_isLight_0 : decode cX11_isLight 0 = .ok (.iload_n 0, 1) := by decide +kernel
theorem dX11_isLight_1 : decode cX11_isLight 1 = .ok (.i2l, 1) := by decide +kernel
theorem dX11_isLight_2 : decode cX11_isLight 2 = .ok (.ldc2_w 255, 3) := by decide +kernel
theorem dX11_isLight_5 : decode cX11_isLight 5 = .ok (.ldc2_w 253, 3) := by decide +kernel
theorem dX11_isLight_8 : decode cX11_isLight 8 = .ok (.invokestatic 136, 3) := by decide +kernel
theorem dX11_isLight_11 : decode cX11_isLight 11 = .ok (.ireturn, 1) := by decide +kernel
theorem dX11_man_0 : decode cX11_man 0 = .ok (.aload_n 0, 1) := by decide +kernel
theorem dX11_man_1 : decode cX11_man 1 = .ok (.iload_n 1, 1) := by decide +kernel
theorem dX11_man_2 : decode cX11_man 2 = .ok (.invokevirtual 257, 3) := by decide +kernel
theorem dX11_man_5 : decode cX11_man 5 = .ok (.ifCond .ne 7, 3) := by decide +kernel
theorem dX11_man_8 : decode cX11_man 8 = .ok (.sipush (-1001), 3) := by decide +kernel
theorem dX11_man_11 : decode cX11_man 11 = .ok (.ireturn, 1) := by decide +kernel
theorem dX11_man_12 : decode cX11_man 12 = .ok (.aload_n 0, 1) := by decide +kernel
theorem dX11_man_13 : decode cX11_man 13 = .ok (.getfield 240, 3) := by decide +kernel
theorem dX11_man_16 : decode cX11_man 16 = .ok (.bipush 8, 2) := by decide +kernel
theorem dX11_man_18 : decode cX11_man 18 = .ok (.if_icmp .ne 7, 3) := by decide +kernel
theorem dX11_man_21 : decode cX11_man 21 = .ok (.sipush (-1004), 3) := by decide +kernel
theorem dX11_man_24 : decode cX11_man 24 = .ok (.ireturn, 1) := by decide +kernel
theorem dX11_man_25 : decode cX11_man 25 = .ok (.aload_n 0, 1) := by decide +kernel
theorem dX11_man_26 : decode cX11_man 26 = .ok (.getfield 48, 3) := by decide +kernel
theorem dX11_man_29 : decode cX11_man 29 = .ok (.aload_n 0, 1) := by decide +kernel
theorem dX11_man_30 : decode cX11_man 30 = .ok (.getfield 240, 3) := by decide +kernel
theorem dX11_man_33 : decode cX11_man 33 = .ok (.iload_n 1, 1) := by decide +kernel
theorem dX11_man_34 : decode cX11_man 34 = .ok (.iastore, 1) := by decide +kernel
theorem dX11_man_35 : decode cX11_man 35 = .ok (.aload_n 0, 1) := by decide +kernel
theorem dX11_man_36 : decode cX11_man 36 = .ok (.getfield 51, 3) := by decide +kernel
theorem dX11_man_39 : decode cX11_man 39 = .ok (.aload_n 0, 1) := by decide +kernel
theorem dX11_man_40 : decode cX11_man 40 = .ok (.getfield 240, 3) := by decide +kernel
theorem dX11_man_43 : decode cX11_man 43 = .ok (.iload_n 2, 1) := by decide +kernel
theorem dX11_man_44 : decode cX11_man 44 = .ok (.bastore, 1) := by decide +kernel
theorem dX11_man_45 : decode cX11_man 45 = .ok (.aload_n 0, 1) := by decide +kernel
theorem dX11_man_46 : decode cX11_man 46 = .ok (.getfield 54, 3) := by decide +kernel
theorem dX11_man_49 : decode cX11_man 49 = .ok (.aload_n 0, 1) := by decide +kernel
theorem dX11_man_50 : decode cX11_man 50 = .ok (.getfield 240, 3) := by decide +kernel
theorem dX11_man_53 : decode cX11_man 53 = .ok (.iload_n 3, 1) := by decide +kernel
theorem dX11_man_54 : decode cX11_man 54 = .ok (.bastore, 1) := by decide +kernel
theorem dX11_man_55 : decode cX11_man 55 = .ok (.aload_n 0, 1) := by decide +kernel
theorem dX11_man_56 : decode cX11_man 56 = .ok (.dup, 1) := by decide +kernel
theorem dX11_man_57 : decode cX11_man 57 = .ok (.getfield 240, 3) := by decide +kernel
theorem dX11_man_60 : decode cX11_man 60 = .ok (.iconst 1, 1) := by decide +kernel
theorem dX11_man_61 : decode cX11_man 61 = .ok (.iadd, 1) := by decide +kernel
theorem dX11_man_62 : decode cX11_man 62 = .ok (.putfield 240, 3) := by decide +kernel
theorem dX11_man_65 : decode cX11_man 65 = .ok (.aload_n 0, 1) := by decide +kernel
theorem dX11_man_66 : decode cX11_man 66 = .ok (.getfield 240, 3) := by decide +kernel
theorem dX11_man_69 : decode cX11_man 69 = .ok (.iconst 1, 1) := by decide +kernel
theorem dX11_man_70 : decode cX11_man 70 = .ok (.isub, 1) := by decide +kernel
theorem dX11_man_71 : decode cX11_man 71 = .ok (.ireturn, 1) := by decide +kernel
theorem dX11_lamp_0 : decode cX11_lamp 0 = .ok (.aload_n 0, 1) := by decide +kernel
theorem dX11_lamp_1 : decode cX11_lamp 1 = .ok (.iload_n 1, 1) := by decide +kernel
theorem dX11_lamp_2 : decode cX11_lamp 2 = .ok (.invokevirtual 257, 3) := by decide +kernel
theorem dX11_lamp_5 : decode cX11_lamp 5 = .ok (.ifCond .ne 7, 3) := by decide +kernel
theorem dX11_lamp_8 : decode cX11_lamp 8 = .ok (.sipush (-1001), 3) := by decide +kernel
theorem dX11_lamp_11 : decode cX11_lamp 11 = .ok (.ireturn, 1) := by decide +kernel
theorem dX11_lamp_12 : decode cX11_lamp 12 = .ok (.iload_n 2, 1) := by decide +kernel
theorem dX11_lamp_13 : decode cX11_lamp 13 = .ok (.invokestatic 260, 3) := by decide +kernel
theorem dX11_lamp_16 : decode cX11_lamp 16 = .ok (.ifCond .ne 7, 3) := by decide +kernel
theorem dX11_lamp_19 : decode cX11_lamp 19 = .ok (.sipush (-1002), 3) := by decide +kernel
theorem dX11_lamp_22 : decode cX11_lamp 22 = .ok (.ireturn, 1) := by decide +kernel
theorem dX11_lamp_23 : decode cX11_lamp 23 = .ok (.aload_n 0, 1) := by decide +kernel
theorem dX11_lamp_24 : decode cX11_lamp 24 = .ok (.getfield 243, 3) := by decide +kernel
theorem dX11_lamp_27 : decode cX11_lamp 27 = .ok (.iconst 4, 1) := by decide +kernel
theorem dX11_lamp_28 : decode cX11_lamp 28 = .ok (.if_icmp .ne 7, 3) := by decide +kernel
theorem dX11_lamp_31 : decode cX11_lamp 31 = .ok (.sipush (-1004), 3) := by decide +kernel
theorem dX11_lamp_34 : decode cX11_lamp 34 = .ok (.ireturn, 1) := by decide +kernel
theorem dX11_lamp_35 : decode cX11_lamp 35 = .ok (.aload_n 0, 1) := by decide +kernel
theorem dX11_lamp_36 : decode cX11_lamp 36 = .ok (.getfield 57, 3) := by decide +kernel
theorem dX11_lamp_39 : decode cX11_lamp 39 = .ok (.aload_n 0, 1) := by decide +kernel
theorem dX11_lamp_40 : decode cX11_lamp 40 = .ok (.getfield 243, 3) := by decide +kernel
theorem dX11_lamp_43 : decode cX11_lamp 43 = .ok (.iload_n 1, 1) := by decide +kernel
theorem dX11_lamp_44 : decode cX11_lamp 44 = .ok (.iastore, 1) := by decide +kernel
theorem dX11_lamp_45 : decode cX11_lamp 45 = .ok (.aload_n 0, 1) := by decide +kernel
theorem dX11_lamp_46 : decode cX11_lamp 46 = .ok (.getfield 60, 3) := by decide +kernel
theorem dX11_lamp_49 : decode cX11_lamp 49 = .ok (.aload_n 0, 1) := by decide +kernel
theorem dX11_lamp_50 : decode cX11_lamp 50 = .ok (.getfield 243, 3) := by decide +kernel
theorem dX11_lamp_53 : decode cX11_lamp 53 = .ok (.iload_n 2, 1) := by decide +kernel
theorem dX11_lamp_54 : decode cX11_lamp 54 = .ok (.iastore, 1) := by decide +kernel
theorem dX11_lamp_55 : decode cX11_lamp 55 = .ok (.aload_n 0, 1) := by decide +kernel
theorem dX11_lamp_56 : decode cX11_lamp 56 = .ok (.dup, 1) := by decide +kernel
theorem dX11_lamp_57 : decode cX11_lamp 57 = .ok (.getfield 243, 3) := by decide +kernel
theorem dX11_lamp_60 : decode cX11_lamp 60 = .ok (.iconst 1, 1) := by decide +kernel
theorem dX11_lamp_61 : decode cX11_lamp 61 = .ok (.iadd, 1) := by decide +kernel
theorem dX11_lamp_62 : decode cX11_lamp 62 = .ok (.putfield 243, 3) := by decide +kernel
theorem dX11_lamp_65 : decode cX11_lamp 65 = .ok (.aload_n 0, 1) := by decide +kernel
theorem dX11_lamp_66 : decode cX11_lamp 66 = .ok (.getfield 243, 3) := by decide +kernel
theorem dX11_lamp_69 : decode cX11_lamp 69 = .ok (.iconst 1, 1) := by decide +kernel
theorem dX11_lamp_70 : decode cX11_lamp 70 = .ok (.isub, 1) := by decide +kernel
theorem dX11_lamp_71 : decode cX11_lamp 71 = .ok (.ireturn, 1) := by decide +kernel
theorem dX11_told_0 : decode cX11_told 0 = .ok (.aload_n 0, 1) := by decide +kernel
theorem dX11_told_1 : decode cX11_told 1 = .ok (.iload_n 1, 1) := by decide +kernel
theorem dX11_told_2 : decode cX11_told 2 = .ok (.invokevirtual 263, 3) := by decide +kernel
theorem dX11_told_5 : decode cX11_told 5 = .ok (.ifCond .ne 7, 3) := by decide +kernel
theorem dX11_told_8 : decode cX11_told 8 = .ok (.sipush (-1001), 3) := by decide +kernel
theorem dX11_told_11 : decode cX11_told 11 = .ok (.ireturn, 1) := by decide +kernel
theorem dX11_told_12 : decode cX11_told 12 = .ok (.iload_n 2, 1) := by decide +kernel
theorem dX11_told_13 : decode cX11_told 13 = .ok (.tableswitch 64 0 2 #[27, 34, 49], 27) := by decide +kernel
theorem dX11_told_40 : decode cX11_told 40 = .ok (.aload_n 0, 1) := by decide +kernel
theorem dX11_told_41 : decode cX11_told 41 = .ok (.getfield 48, 3) := by decide +kernel
theorem dX11_told_44 : decode cX11_told 44 = .ok (.iload_n 1, 1) := by decide +kernel
theorem dX11_told_45 : decode cX11_told 45 = .ok (.iaload, 1) := by decide +kernel
theorem dX11_told_46 : decode cX11_told 46 = .ok (.ireturn, 1) := by decide +kernel
theorem dX11_told_47 : decode cX11_told 47 = .ok (.aload_n 0, 1) := by decide +kernel
theorem dX11_told_48 : decode cX11_told 48 = .ok (.getfield 51, 3) := by decide +kernel
theorem dX11_told_51 : decode cX11_told 51 = .ok (.iload_n 1, 1) := by decide +kernel
theorem dX11_told_52 : decode cX11_told 52 = .ok (.baload, 1) := by decide +kernel
theorem dX11_told_53 : decode cX11_told 53 = .ok (.ifCond .eq 7, 3) := by decide +kernel
theorem dX11_told_56 : decode cX11_told 56 = .ok (.iconst 1, 1) := by decide +kernel
theorem dX11_told_57 : decode cX11_told 57 = .ok (.goto 4, 3) := by decide +kernel
theorem dX11_told_60 : decode cX11_told 60 = .ok (.iconst 0, 1) := by decide +kernel
theorem dX11_told_61 : decode cX11_told 61 = .ok (.ireturn, 1) := by decide +kernel
theorem dX11_told_62 : decode cX11_told 62 = .ok (.aload_n 0, 1) := by decide +kernel
theorem dX11_told_63 : decode cX11_told 63 = .ok (.getfield 54, 3) := by decide +kernel
theorem dX11_told_66 : decode cX11_told 66 = .ok (.iload_n 1, 1) := by decide +kernel
theorem dX11_told_67 : decode cX11_told 67 = .ok (.baload, 1) := by decide +kernel
theorem dX11_told_68 : decode cX11_told 68 = .ok (.ifCond .eq 7, 3) := by decide +kernel
theorem dX11_told_71 : decode cX11_told 71 = .ok (.iconst 1, 1) := by decide +kernel
theorem dX11_told_72 : decode cX11_told 72 = .ok (.goto 4, 3) := by decide +kernel
theorem dX11_told_75 : decode cX11_told 75 = .ok (.iconst 0, 1) := by decide +kernel
theorem dX11_told_76 : decode cX11_told 76 = .ok (.ireturn, 1) := by decide +kernel
theorem dX11_told_77 : decode cX11_told 77 = .ok (.sipush (-1002), 3) := by decide +kernel
theorem dX11_told_80 : decode cX11_told 80 = .ok (.ireturn, 1) := by decide +kernel
theorem dX11_light_0 : decode cX11_light 0 = .ok (.aload_n 0, 1) := by decide +kernel
theorem dX11_light_1 : decode cX11_light 1 = .ok (.iload_n 1, 1) := by decide +kernel
theorem dX11_light_2 : decode cX11_light 2 = .ok (.invokevirtual 266, 3) := by decide +kernel
theorem dX11_light_5 : decode cX11_light 5 = .ok (.ifCond .ne 7, 3) := by decide +kernel
theorem dX11_light_8 : decode cX11_light 8 = .ok (.sipush (-1001), 3) := by decide +kernel
theorem dX11_light_11 : decode cX11_light 11 = .ok (.ireturn, 1) := by decide +kernel
theorem dX11_light_12 : decode cX11_light 12 = .ok (.iload_n 2, 1) := by decide +kernel
theorem dX11_light_13 : decode cX11_light 13 = .ok (.ifCond .ne 12, 3) := by decide +kernel
theorem dX11_light_16 : decode cX11_light 16 = .ok (.aload_n 0, 1) := by decide +kernel
theorem dX11_light_17 : decode cX11_light 17 = .ok (.getfield 57, 3) := by decide +kernel
theorem dX11_light_20 : decode cX11_light 20 = .ok (.iload_n 1, 1) := by decide +kernel
theorem dX11_light_21 : decode cX11_light 21 = .ok (.iaload, 1) := by decide +kernel
theorem dX11_light_22 : decode cX11_light 22 = .ok (.goto 20, 3) := by decide +kernel
theorem dX11_light_25 : decode cX11_light 25 = .ok (.iload_n 2, 1) := by decide +kernel
theorem dX11_light_26 : decode cX11_light 26 = .ok (.iconst 1, 1) := by decide +kernel
theorem dX11_light_27 : decode cX11_light 27 = .ok (.if_icmp .ne 12, 3) := by decide +kernel
theorem dX11_light_30 : decode cX11_light 30 = .ok (.aload_n 0, 1) := by decide +kernel
theorem dX11_light_31 : decode cX11_light 31 = .ok (.getfield 60, 3) := by decide +kernel
theorem dX11_light_34 : decode cX11_light 34 = .ok (.iload_n 1, 1) := by decide +kernel
theorem dX11_light_35 : decode cX11_light 35 = .ok (.iaload, 1) := by decide +kernel
theorem dX11_light_36 : decode cX11_light 36 = .ok (.goto 6, 3) := by decide +kernel
theorem dX11_light_39 : decode cX11_light 39 = .ok (.sipush (-1002), 3) := by decide +kernel
theorem dX11_light_42 : decode cX11_light 42 = .ok (.ireturn, 1) := by decide +kernel
theorem dX11_moves_0 : decode cX11_moves 0 = .ok (.aload_n 0, 1) := by decide +kernel
theorem dX11_moves_1 : decode cX11_moves 1 = .ok (.iload_n 1, 1) := by decide +kernel
theorem dX11_moves_2 : decode cX11_moves 2 = .ok (.invokevirtual 263, 3) := by decide +kernel
theorem dX11_moves_5 : decode cX11_moves 5 = .ok (.ifCond .eq 11, 3) := by decide +kernel
theorem dX11_moves_8 : decode cX11_moves 8 = .ok (.aload_n 0, 1) := by decide +kernel
theorem dX11_moves_9 : decode cX11_moves 9 = .ok (.iload_n 2, 1) := by decide +kernel
theorem dX11_moves_10 : decode cX11_moves 10 = .ok (.invokevirtual 257, 3) := by decide +kernel
theorem dX11_moves_13 : decode cX11_moves 13 = .ok (.ifCond .ne 7, 3) := by decide +kernel
theorem dX11_moves_16 : decode cX11_moves 16 = .ok (.sipush (-1001), 3) := by decide +kernel
theorem dX11_moves_19 : decode cX11_moves 19 = .ok (.ireturn, 1) := by decide +kernel
theorem dX11_moves_20 : decode cX11_moves 20 = .ok (.aload_n 0, 1) := by decide +kernel
theorem dX11_moves_21 : decode cX11_moves 21 = .ok (.getfield 48, 3) := by decide +kernel
theorem dX11_moves_24 : decode cX11_moves 24 = .ok (.iload_n 1, 1) := by decide +kernel
theorem dX11_moves_25 : decode cX11_moves 25 = .ok (.iaload, 1) := by decide +kernel
theorem dX11_moves_26 : decode cX11_moves 26 = .ok (.istore 4, 2) := by decide +kernel
theorem dX11_moves_28 : decode cX11_moves 28 = .ok (.aload_n 0, 1) := by decide +kernel
theorem dX11_moves_29 : decode cX11_moves 29 = .ok (.getfield 48, 3) := by decide +kernel
theorem dX11_moves_32 : decode cX11_moves 32 = .ok (.iload_n 1, 1) := by decide +kernel
theorem dX11_moves_33 : decode cX11_moves 33 = .ok (.iload_n 2, 1) := by decide +kernel
theorem dX11_moves_34 : decode cX11_moves 34 = .ok (.iastore, 1) := by decide +kernel
theorem dX11_moves_35 : decode cX11_moves 35 = .ok (.aload_n 0, 1) := by decide +kernel
theorem dX11_moves_36 : decode cX11_moves 36 = .ok (.getfield 51, 3) := by decide +kernel
theorem dX11_moves_39 : decode cX11_moves 39 = .ok (.iload_n 1, 1) := by decide +kernel
theorem dX11_moves_40 : decode cX11_moves 40 = .ok (.iload_n 3, 1) := by decide +kernel
theorem dX11_moves_41 : decode cX11_moves 41 = .ok (.bastore, 1) := by decide +kernel
theorem dX11_moves_42 : decode cX11_moves 42 = .ok (.iload 4, 2) := by decide +kernel
theorem dX11_moves_44 : decode cX11_moves 44 = .ok (.ireturn, 1) := by decide +kernel
theorem dX11_count_0 : decode cX11_count 0 = .ok (.iconst 0, 1) := by decide +kernel
theorem dX11_count_1 : decode cX11_count 1 = .ok (.istore_n 2, 1) := by decide +kernel
theorem dX11_count_2 : decode cX11_count 2 = .ok (.iconst 0, 1) := by decide +kernel
theorem dX11_count_3 : decode cX11_count 3 = .ok (.istore_n 3, 1) := by decide +kernel
theorem dX11_count_4 : decode cX11_count 4 = .ok (.iload_n 3, 1) := by decide +kernel
theorem dX11_count_5 : decode cX11_count 5 = .ok (.aload_n 0, 1) := by decide +kernel
theorem dX11_count_6 : decode cX11_count 6 = .ok (.getfield 240, 3) := by decide +kernel
theorem dX11_count_9 : decode cX11_count 9 = .ok (.if_icmp .ge 26, 3) := by decide +kernel
theorem dX11_count_12 : decode cX11_count 12 = .ok (.iload_n 2, 1) := by decide +kernel
theorem dX11_count_13 : decode cX11_count 13 = .ok (.aload_n 0, 1) := by decide +kernel
theorem dX11_count_14 : decode cX11_count 14 = .ok (.getfield 51, 3) := by decide +kernel
theorem dX11_count_17 : decode cX11_count 17 = .ok (.iload_n 3, 1) := by decide +kernel
theorem dX11_count_18 : decode cX11_count 18 = .ok (.baload, 1) := by decide +kernel
theorem dX11_count_19 : decode cX11_count 19 = .ok (.ifCond .eq 7, 3) := by decide +kernel
theorem dX11_count_22 : decode cX11_count 22 = .ok (.iconst 1, 1) := by decide +kernel
theorem dX11_count_23 : decode cX11_count 23 = .ok (.goto 4, 3) := by decide +kernel
theorem dX11_count_26 : decode cX11_count 26 = .ok (.iconst 0, 1) := by decide +kernel
theorem dX11_count_27 : decode cX11_count 27 = .ok (.iadd, 1) := by decide +kernel
theorem dX11_count_28 : decode cX11_count 28 = .ok (.istore_n 2, 1) := by decide +kernel
theorem dX11_count_29 : decode cX11_count 29 = .ok (.iinc 3 1, 3) := by decide +kernel
theorem dX11_count_32 : decode cX11_count 32 = .ok (.goto (-28), 3) := by decide +kernel
theorem dX11_count_35 : decode cX11_count 35 = .ok (.iload_n 1, 1) := by decide +kernel
theorem dX11_count_36 : decode cX11_count 36 = .ok (.tableswitch 94 0 8 #[52, 57, 62, 67, 72, 77, 82, 87, 92], 52) := by decide +kernel
theorem dX11_count_88 : decode cX11_count 88 = .ok (.aload_n 0, 1) := by decide +kernel
theorem dX11_count_89 : decode cX11_count 89 = .ok (.getfield 133, 3) := by decide +kernel
theorem dX11_count_92 : decode cX11_count 92 = .ok (.ireturn, 1) := by decide +kernel
theorem dX11_count_93 : decode cX11_count 93 = .ok (.aload_n 0, 1) := by decide +kernel
theorem dX11_count_94 : decode cX11_count 94 = .ok (.getfield 140, 3) := by decide +kernel
theorem dX11_count_97 : decode cX11_count 97 = .ok (.ireturn, 1) := by decide +kernel
theorem dX11_count_98 : decode cX11_count 98 = .ok (.aload_n 0, 1) := by decide +kernel
theorem dX11_count_99 : decode cX11_count 99 = .ok (.getfield 240, 3) := by decide +kernel
theorem dX11_count_102 : decode cX11_count 102 = .ok (.ireturn, 1) := by decide +kernel
theorem dX11_count_103 : decode cX11_count 103 = .ok (.aload_n 0, 1) := by decide +kernel
theorem dX11_count_104 : decode cX11_count 104 = .ok (.getfield 243, 3) := by decide +kernel
theorem dX11_count_107 : decode cX11_count 107 = .ok (.ireturn, 1) := by decide +kernel
theorem dX11_count_108 : decode cX11_count 108 = .ok (.aload_n 0, 1) := by decide +kernel
theorem dX11_count_109 : decode cX11_count 109 = .ok (.getfield 246, 3) := by decide +kernel
theorem dX11_count_112 : decode cX11_count 112 = .ok (.ireturn, 1) := by decide +kernel
theorem dX11_count_113 : decode cX11_count 113 = .ok (.aload_n 0, 1) := by decide +kernel
theorem dX11_count_114 : decode cX11_count 114 = .ok (.getfield 145, 3) := by decide +kernel
theorem dX11_count_117 : decode cX11_count 117 = .ok (.ireturn, 1) := by decide +kernel
theorem dX11_count_118 : decode cX11_count 118 = .ok (.aload_n 0, 1) := by decide +kernel
theorem dX11_count_119 : decode cX11_count 119 = .ok (.getfield 9, 3) := by decide +kernel
theorem dX11_count_122 : decode cX11_count 122 = .ok (.ireturn, 1) := by decide +kernel
theorem dX11_count_123 : decode cX11_count 123 = .ok (.aload_n 0, 1) := by decide +kernel
theorem dX11_count_124 : decode cX11_count 124 = .ok (.getfield 237, 3) := by decide +kernel
theorem dX11_count_127 : decode cX11_count 127 = .ok (.ireturn, 1) := by decide +kernel
theorem dX11_count_128 : decode cX11_count 128 = .ok (.iload_n 2, 1) := by decide +kernel
theorem dX11_count_129 : decode cX11_count 129 = .ok (.ireturn, 1) := by decide +kernel
theorem dX11_count_130 : decode cX11_count 130 = .ok (.sipush (-1002), 3) := by decide +kernel
theorem dX11_count_133 : decode cX11_count 133 = .ok (.ireturn, 1) := by decide +kernel
theorem dX11_through_0 : decode cX11_through 0 = .ok (.aload_n 0, 1) := by decide +kernel
theorem dX11_through_1 : decode cX11_through 1 = .ok (.getfield 35, 3) := by decide +kernel
theorem dX11_through_4 : decode cX11_through 4 = .ok (.iload_n 1, 1) := by decide +kernel
theorem dX11_through_5 : decode cX11_through 5 = .ok (.baload, 1) := by decide +kernel
theorem dX11_through_6 : decode cX11_through 6 = .ok (.ifCond .eq 5, 3) := by decide +kernel
theorem dX11_through_9 : decode cX11_through 9 = .ok (.iconst (-1), 1) := by decide +kernel
theorem dX11_through_10 : decode cX11_through 10 = .ok (.ireturn, 1) := by decide +kernel
theorem dX11_through_11 : decode cX11_through 11 = .ok (.iload_n 2, 1) := by decide +kernel
theorem dX11_through_12 : decode cX11_through 12 = .ok (.iload 4, 2) := by decide +kernel
theorem dX11_through_14 : decode cX11_through 14 = .ok (.ifCond .eq 7, 3) := by decide +kernel
theorem dX11_through_17 : decode cX11_through 17 = .ok (.iconst 2, 1) := by decide +kernel
theorem dX11_through_18 : decode cX11_through 18 = .ok (.goto 4, 3) := by decide +kernel
theorem dX11_through_21 : decode cX11_through 21 = .ok (.iconst 1, 1) := by decide +kernel
theorem dX11_through_22 : decode cX11_through 22 = .ok (.aload_n 0, 1) := by decide +kernel
theorem dX11_through_23 : decode cX11_through 23 = .ok (.getfield 20, 3) := by decide +kernel
theorem dX11_through_26 : decode cX11_through 26 = .ok (.iload_n 1, 1) := by decide +kernel
theorem dX11_through_27 : decode cX11_through 27 = .ok (.iaload, 1) := by decide +kernel
theorem dX11_through_28 : decode cX11_through 28 = .ok (.imul, 1) := by decide +kernel
theorem dX11_through_29 : decode cX11_through 29 = .ok (.iadd, 1) := by decide +kernel
theorem dX11_through_30 : decode cX11_through 30 = .ok (.istore 5, 2) := by decide +kernel
theorem dX11_through_32 : decode cX11_through 32 = .ok (.aload_n 0, 1) := by decide +kernel
theorem dX11_through_33 : decode cX11_through 33 = .ok (.getfield 63, 3) := by decide +kernel
theorem dX11_through_36 : decode cX11_through 36 = .ok (.ifCond .lt 42, 3) := by decide +kernel
theorem dX11_through_39 : decode cX11_through 39 = .ok (.aload_n 0, 1) := by decide +kernel
theorem dX11_through_40 : decode cX11_through 40 = .ok (.getfield 13, 3) := by decide +kernel
theorem dX11_through_43 : decode cX11_through 43 = .ok (.iload_n 1, 1) := by decide +kernel
theorem dX11_through_44 : decode cX11_through 44 = .ok (.iaload, 1) := by decide +kernel
theorem dX11_through_45 : decode cX11_through 45 = .ok (.aload_n 0, 1) := by decide +kernel
theorem dX11_through_46 : decode cX11_through 46 = .ok (.getfield 63, 3) := by decide +kernel
theorem dX11_through_49 : decode cX11_through 49 = .ok (.if_icmp .eq 16, 3) := by decide +kernel
theorem dX11_through_52 : decode cX11_through 52 = .ok (.aload_n 0, 1) := by decide +kernel
theorem dX11_through_53 : decode cX11_through 53 = .ok (.getfield 17, 3) := by decide +kernel
theorem dX11_through_56 : decode cX11_through 56 = .ok (.iload_n 1, 1) := by decide +kernel
theorem dX11_through_57 : decode cX11_through 57 = .ok (.iaload, 1) := by decide +kernel
theorem dX11_through_58 : decode cX11_through 58 = .ok (.aload_n 0, 1) := by decide +kernel
theorem dX11_through_59 : decode cX11_through 59 = .ok (.getfield 63, 3) := by decide +kernel
theorem dX11_through_62 : decode cX11_through 62 = .ok (.if_icmp .ne 16, 3) := by decide +kernel
theorem dX11_through_65 : decode cX11_through 65 = .ok (.iload 5, 2) := by decide +kernel
theorem dX11_through_67 : decode cX11_through 67 = .ok (.aload_n 0, 1) := by decide +kernel
theorem dX11_through_68 : decode cX11_through 68 = .ok (.getfield 269, 3) := by decide +kernel
theorem dX11_through_71 : decode cX11_through 71 = .ok (.if_icmp .gt 7, 3) := by decide +kernel
theorem dX11_through_74 : decode cX11_through 74 = .ok (.iconst 1, 1) := by decide +kernel
theorem dX11_through_75 : decode cX11_through 75 = .ok (.goto 4, 3) := by decide +kernel
theorem dX11_through_78 : decode cX11_through 78 = .ok (.iconst 0, 1) := by decide +kernel
theorem dX11_through_79 : decode cX11_through 79 = .ok (.istore 6, 2) := by decide +kernel
theorem dX11_through_81 : decode cX11_through 81 = .ok (.iload 5, 2) := by decide +kernel
theorem dX11_through_83 : decode cX11_through 83 = .ok (.iload_n 3, 1) := by decide +kernel
theorem dX11_through_84 : decode cX11_through 84 = .ok (.if_icmp .le 8, 3) := by decide +kernel
theorem dX11_through_87 : decode cX11_through 87 = .ok (.iload 6, 2) := by decide +kernel
theorem dX11_through_89 : decode cX11_through 89 = .ok (.ifCond .eq 8, 3) := by decide +kernel
theorem dX11_through_92 : decode cX11_through 92 = .ok (.iload 5, 2) := by decide +kernel
theorem dX11_through_94 : decode cX11_through 94 = .ok (.goto 35, 3) := by decide +kernel
theorem dX11_through_97 : decode cX11_through 97 = .ok (.aload_n 0, 1) := by decide +kernel
theorem dX11_through_98 : decode cX11_through 98 = .ok (.getfield 23, 3) := by decide +kernel
theorem dX11_through_101 : decode cX11_through 101 = .ok (.iload_n 1, 1) := by decide +kernel
theorem dX11_through_102 : decode cX11_through 102 = .ok (.iaload, 1) := by decide +kernel
theorem dX11_through_103 : decode cX11_through 103 = .ok (.ifCond .ge 7, 3) := by decide +kernel
theorem dX11_through_106 : decode cX11_through 106 = .ok (.iconst (-1), 1) := by decide +kernel
theorem dX11_through_107 : decode cX11_through 107 = .ok (.goto 22, 3) := by decide +kernel
theorem dX11_through_110 : decode cX11_through 110 = .ok (.iload_n 2, 1) := by decide +kernel
theorem dX11_through_111 : decode cX11_through 111 = .ok (.iload 4, 2) := by decide +kernel
theorem dX11_through_113 : decode cX11_through 113 = .ok (.ifCond .eq 7, 3) := by decide +kernel
theorem dX11_through_116 : decode cX11_through 116 = .ok (.iconst 2, 1) := by decide +kernel
theorem dX11_through_117 : decode cX11_through 117 = .ok (.goto 4, 3) := by decide +kernel
theorem dX11_through_120 : decode cX11_through 120 = .ok (.iconst 1, 1) := by decide +kernel
theorem dX11_through_121 : decode cX11_through 121 = .ok (.aload_n 0, 1) := by decide +kernel
theorem dX11_through_122 : decode cX11_through 122 = .ok (.getfield 23, 3) := by decide +kernel
theorem dX11_through_125 : decode cX11_through 125 = .ok (.iload_n 1, 1) := by decide +kernel
theorem dX11_through_126 : decode cX11_through 126 = .ok (.iaload, 1) := by decide +kernel
theorem dX11_through_127 : decode cX11_through 127 = .ok (.imul, 1) := by decide +kernel
theorem dX11_through_128 : decode cX11_through 128 = .ok (.iadd, 1) := by decide +kernel
theorem dX11_through_129 : decode cX11_through 129 = .ok (.istore 7, 2) := by decide +kernel
theorem dX11_through_131 : decode cX11_through 131 = .ok (.iload 7, 2) := by decide +kernel
theorem dX11_through_133 : decode cX11_through 133 = .ok (.aload_n 0, 1) := by decide +kernel
theorem dX11_through_134 : decode cX11_through 134 = .ok (.getfield 29, 3) := by decide +kernel
theorem dX11_through_137 : decode cX11_through 137 = .ok (.iload_n 1, 1) := by decide +kernel
theorem dX11_through_138 : decode cX11_through 138 = .ok (.iaload, 1) := by decide +kernel
theorem dX11_through_139 : decode cX11_through 139 = .ok (.if_icmp .gt 8, 3) := by decide +kernel
theorem dX11_through_142 : decode cX11_through 142 = .ok (.iload 7, 2) := by decide +kernel
theorem dX11_through_144 : decode cX11_through 144 = .ok (.goto 4, 3) := by decide +kernel
theorem dX11_through_147 : decode cX11_through 147 = .ok (.iconst (-1), 1) := by decide +kernel
theorem dX11_through_148 : decode cX11_through 148 = .ok (.ireturn, 1) := by decide +kernel
theorem dX11_walk_0 : decode cX11_walk 0 = .ok (.iconst 0, 1) := by decide +kernel
theorem dX11_walk_1 : decode cX11_walk 1 = .ok (.istore 5, 2) := by decide +kernel
theorem dX11_walk_3 : decode cX11_walk 3 = .ok (.iload 5, 2) := by decide +kernel
theorem dX11_walk_5 : decode cX11_walk 5 = .ok (.aload_n 0, 1) := by decide +kernel
theorem dX11_walk_6 : decode cX11_walk 6 = .ok (.getfield 133, 3) := by decide +kernel
theorem dX11_walk_9 : decode cX11_walk 9 = .ok (.if_icmp .ge 27, 3) := by decide +kernel
theorem dX11_walk_12 : decode cX11_walk 12 = .ok (.aload_n 0, 1) := by decide +kernel
theorem dX11_walk_13 : decode cX11_walk 13 = .ok (.getfield 66, 3) := by decide +kernel
theorem dX11_walk_16 : decode cX11_walk 16 = .ok (.iload 5, 2) := by decide +kernel
theorem dX11_walk_18 : decode cX11_walk 18 = .ok (.iload 5, 2) := by decide +kernel
theorem dX11_walk_20 : decode cX11_walk 20 = .ok (.iload_n 1, 1) := by decide +kernel
theorem dX11_walk_21 : decode cX11_walk 21 = .ok (.if_icmp .ne 7, 3) := by decide +kernel
theorem dX11_walk_24 : decode cX11_walk 24 = .ok (.iload_n 2, 1) := by decide +kernel
theorem dX11_walk_25 : decode cX11_walk 25 = .ok (.goto 4, 3) := by decide +kernel
theorem dX11_walk_28 : decode cX11_walk 28 = .ok (.iconst (-1), 1) := by decide +kernel
theorem dX11_walk_29 : decode cX11_walk 29 = .ok (.iastore, 1) := by decide +kernel
theorem dX11_walk_30 : decode cX11_walk 30 = .ok (.iinc 5 1, 3) := by decide +kernel
theorem dX11_walk_33 : decode cX11_walk 33 = .ok (.goto (-30), 3) := by decide +kernel
theorem dX11_walk_36 : decode cX11_walk 36 = .ok (.iconst 1, 1) := by decide +kernel
theorem dX11_walk_37 : decode cX11_walk 37 = .ok (.istore 5, 2) := by decide +kernel
theorem dX11_walk_39 : decode cX11_walk 39 = .ok (.iload 5, 2) := by decide +kernel
theorem dX11_walk_41 : decode cX11_walk 41 = .ok (.ifCond .eq 103, 3) := by decide +kernel
theorem dX11_walk_44 : decode cX11_walk 44 = .ok (.iconst 0, 1) := by decide +kernel
theorem dX11_walk_45 : decode cX11_walk 45 = .ok (.istore 5, 2) := by decide +kernel
theorem dX11_walk_47 : decode cX11_walk 47 = .ok (.iconst 0, 1) := by decide +kernel
theorem dX11_walk_48 : decode cX11_walk 48 = .ok (.istore 6, 2) := by decide +kernel
theorem dX11_walk_50 : decode cX11_walk 50 = .ok (.iload 6, 2) := by decide +kernel
theorem dX11_walk_52 : decode cX11_walk 52 = .ok (.aload_n 0, 1) := by decide +kernel
theorem dX11_walk_53 : decode cX11_walk 53 = .ok (.getfield 140, 3) := by decide +kernel
theorem dX11_walk_56 : decode cX11_walk 56 = .ok (.if_icmp .ge 85, 3) := by decide +kernel
theorem dX11_walk_59 : decode cX11_walk 59 = .ok (.aload_n 0, 1) := by decide +kernel
theorem dX11_walk_60 : decode cX11_walk 60 = .ok (.iload 6, 2) := by decide +kernel
theorem dX11_walk_62 : decode cX11_walk 62 = .ok (.aload_n 0, 1) := by decide +kernel
theorem dX11_walk_63 : decode cX11_walk 63 = .ok (.getfield 13, 3) := by decide +kernel
theorem dX11_walk_66 : decode cX11_walk 66 = .ok (.iload 6, 2) := by decide +kernel
theorem dX11_walk_68 : decode cX11_walk 68 = .ok (.iaload, 1) := by decide +kernel
theorem dX11_walk_69 : decode cX11_walk 69 = .ok (.aload_n 0, 1) := by decide +kernel
theorem dX11_walk_70 : decode cX11_walk 70 = .ok (.getfield 17, 3) := by decide +kernel
theorem dX11_walk_73 : decode cX11_walk 73 = .ok (.iload 6, 2) := by decide +kernel
theorem dX11_walk_75 : decode cX11_walk 75 = .ok (.iaload, 1) := by decide +kernel
theorem dX11_walk_76 : decode cX11_walk 76 = .ok (.iload_n 3, 1) := by decide +kernel
theorem dX11_walk_77 : decode cX11_walk 77 = .ok (.iload 4, 2) := by decide +kernel
theorem dX11_walk_79 : decode cX11_walk 79 = .ok (.invokevirtual 272, 3) := by decide +kernel
theorem dX11_walk_82 : decode cX11_walk 82 = .ok (.ifCond .ne 8, 3) := by decide +kernel
theorem dX11_walk_85 : decode cX11_walk 85 = .ok (.iload 5, 2) := by decide +kernel
theorem dX11_walk_87 : decode cX11_walk 87 = .ok (.ifCond .eq 7, 3) := by decide +kernel
theorem dX11_walk_90 : decode cX11_walk 90 = .ok (.iconst 1, 1) := by decide +kernel
theorem dX11_walk_91 : decode cX11_walk 91 = .ok (.goto 4, 3) := by decide +kernel
theorem dX11_walk_94 : decode cX11_walk 94 = .ok (.iconst 0, 1) := by decide +kernel
theorem dX11_walk_95 : decode cX11_walk 95 = .ok (.istore 5, 2) := by decide +kernel
theorem dX11_walk_97 : decode cX11_walk 97 = .ok (.aload_n 0, 1) := by decide +kernel
theorem dX11_walk_98 : decode cX11_walk 98 = .ok (.iload 6, 2) := by decide +kernel
theorem dX11_walk_100 : decode cX11_walk 100 = .ok (.aload_n 0, 1) := by decide +kernel
theorem dX11_walk_101 : decode cX11_walk 101 = .ok (.getfield 17, 3) := by decide +kernel
theorem dX11_walk_104 : decode cX11_walk 104 = .ok (.iload 6, 2) := by decide +kernel
theorem dX11_walk_106 : decode cX11_walk 106 = .ok (.iaload, 1) := by decide +kernel
theorem dX11_walk_107 : decode cX11_walk 107 = .ok (.aload_n 0, 1) := by decide +kernel
theorem dX11_walk_108 : decode cX11_walk 108 = .ok (.getfield 13, 3) := by decide +kernel
theorem dX11_walk_111 : decode cX11_walk 111 = .ok (.iload 6, 2) := by decide +kernel
theorem dX11_walk_113 : decode cX11_walk 113 = .ok (.iaload, 1) := by decide +kernel
theorem dX11_walk_114 : decode cX11_walk 114 = .ok (.iload_n 3, 1) := by decide +kernel
theorem dX11_walk_115 : decode cX11_walk 115 = .ok (.iload 4, 2) := by decide +kernel
theorem dX11_walk_117 : decode cX11_walk 117 = .ok (.invokevirtual 272, 3) := by decide +kernel
theorem dX11_walk_120 : decode cX11_walk 120 = .ok (.ifCond .ne 8, 3) := by decide +kernel
theorem dX11_walk_123 : decode cX11_walk 123 = .ok (.iload 5, 2) := by decide +kernel
theorem dX11_walk_125 : decode cX11_walk 125 = .ok (.ifCond .eq 7, 3) := by decide +kernel
theorem dX11_walk_128 : decode cX11_walk 128 = .ok (.iconst 1, 1) := by decide +kernel
theorem dX11_walk_129 : decode cX11_walk 129 = .ok (.goto 4, 3) := by decide +kernel
theorem dX11_walk_132 : decode cX11_walk 132 = .ok (.iconst 0, 1) := by decide +kernel
theorem dX11_walk_133 : decode cX11_walk 133 = .ok (.istore 5, 2) := by decide +kernel
theorem dX11_walk_135 : decode cX11_walk 135 = .ok (.iinc 6 1, 3) := by decide +kernel
theorem dX11_walk_138 : decode cX11_walk 138 = .ok (.goto (-88), 3) := by decide +kernel
theorem dX11_walk_141 : decode cX11_walk 141 = .ok (.goto (-102), 3) := by decide +kernel
theorem dX11_walk_144 : decode cX11_walk 144 = .ok (.return_, 1) := by decide +kernel
theorem dX11_step_0 : decode cX11_step 0 = .ok (.aload_n 0, 1) := by decide +kernel
theorem dX11_step_1 : decode cX11_step 1 = .ok (.getfield 66, 3) := by decide +kernel
theorem dX11_step_4 : decode cX11_step 4 = .ok (.iload_n 2, 1) := by decide +kernel
theorem dX11_step_5 : decode cX11_step 5 = .ok (.iaload, 1) := by decide +kernel
theorem dX11_step_6 : decode cX11_step 6 = .ok (.ifCond .ge 7, 3) := by decide +kernel
theorem dX11_step_9 : decode cX11_step 9 = .ok (.iconst (-1), 1) := by decide +kernel
theorem dX11_step_10 : decode cX11_step 10 = .ok (.goto 18, 3) := by decide +kernel
theorem dX11_step_13 : decode cX11_step 13 = .ok (.aload_n 0, 1) := by decide +kernel
theorem dX11_step_14 : decode cX11_step 14 = .ok (.iload_n 1, 1) := by decide +kernel
theorem dX11_step_15 : decode cX11_step 15 = .ok (.aload_n 0, 1) := by decide +kernel
theorem dX11_step_16 : decode cX11_step 16 = .ok (.getfield 66, 3) := by decide +kernel
theorem dX11_step_19 : decode cX11_step 19 = .ok (.iload_n 2, 1) := by decide +kernel
theorem dX11_step_20 : decode cX11_step 20 = .ok (.iaload, 1) := by decide +kernel
theorem dX11_step_21 : decode cX11_step 21 = .ok (.iload 4, 2) := by decide +kernel
theorem dX11_step_23 : decode cX11_step 23 = .ok (.iload 5, 2) := by decide +kernel
theorem dX11_step_25 : decode cX11_step 25 = .ok (.invokevirtual 276, 3) := by decide +kernel
theorem dX11_step_28 : decode cX11_step 28 = .ok (.istore 6, 2) := by decide +kernel
theorem dX11_step_30 : decode cX11_step 30 = .ok (.iload 6, 2) := by decide +kernel
theorem dX11_step_32 : decode cX11_step 32 = .ok (.ifCond .lt 27, 3) := by decide +kernel
theorem dX11_step_35 : decode cX11_step 35 = .ok (.aload_n 0, 1) := by decide +kernel
theorem dX11_step_36 : decode cX11_step 36 = .ok (.getfield 66, 3) := by decide +kernel
theorem dX11_step_39 : decode cX11_step 39 = .ok (.iload_n 3, 1) := by decide +kernel
theorem dX11_step_40 : decode cX11_step 40 = .ok (.iaload, 1) := by decide +kernel
theorem dX11_step_41 : decode cX11_step 41 = .ok (.ifCond .lt 14, 3) := by decide +kernel
theorem dX11_step_44 : decode cX11_step 44 = .ok (.iload 6, 2) := by decide +kernel
theorem dX11_step_46 : decode cX11_step 46 = .ok (.aload_n 0, 1) := by decide +kernel
theorem dX11_step_47 : decode cX11_step 47 = .ok (.getfield 66, 3) := by decide +kernel
theorem dX11_step_50 : decode cX11_step 50 = .ok (.iload_n 3, 1) := by decide +kernel
theorem dX11_step_51 : decode cX11_step 51 = .ok (.iaload, 1) := by decide +kernel
theorem dX11_step_52 : decode cX11_step 52 = .ok (.if_icmp .ge 7, 3) := by decide +kernel
theorem dX11_step_55 : decode cX11_step 55 = .ok (.iconst 1, 1) := by decide +kernel
theorem dX11_step_56 : decode cX11_step 56 = .ok (.goto 4, 3) := by decide +kernel
theorem dX11_step_59 : decode cX11_step 59 = .ok (.iconst 0, 1) := by decide +kernel
theorem dX11_step_60 : decode cX11_step 60 = .ok (.istore 7, 2) := by decide +kernel
theorem dX11_step_62 : decode cX11_step 62 = .ok (.aload_n 0, 1) := by decide +kernel
theorem dX11_step_63 : decode cX11_step 63 = .ok (.getfield 66, 3) := by decide +kernel
theorem dX11_step_66 : decode cX11_step 66 = .ok (.iload_n 3, 1) := by decide +kernel
theorem dX11_step_67 : decode cX11_step 67 = .ok (.iload 7, 2) := by decide +kernel
theorem dX11_step_69 : decode cX11_step 69 = .ok (.ifCond .eq 8, 3) := by decide +kernel
theorem dX11_step_72 : decode cX11_step 72 = .ok (.iload 6, 2) := by decide +kernel
theorem dX11_step_74 : decode cX11_step 74 = .ok (.goto 9, 3) := by decide +kernel
theorem dX11_step_77 : decode cX11_step 77 = .ok (.aload_n 0, 1) := by decide +kernel
theorem dX11_step_78 : decode cX11_step 78 = .ok (.getfield 66, 3) := by decide +kernel
theorem dX11_step_81 : decode cX11_step 81 = .ok (.iload_n 3, 1) := by decide +kernel
theorem dX11_step_82 : decode cX11_step 82 = .ok (.iaload, 1) := by decide +kernel
theorem dX11_step_83 : decode cX11_step 83 = .ok (.iastore, 1) := by decide +kernel
theorem dX11_step_84 : decode cX11_step 84 = .ok (.iload 7, 2) := by decide +kernel
theorem dX11_step_86 : decode cX11_step 86 = .ok (.ireturn, 1) := by decide +kernel
theorem dX11_comes_0 : decode cX11_comes 0 = .ok (.aload_n 0, 1) := by decide +kernel
theorem dX11_comes_1 : decode cX11_comes 1 = .ok (.iload_n 1, 1) := by decide +kernel
theorem dX11_comes_2 : decode cX11_comes 2 = .ok (.iload_n 3, 1) := by decide +kernel
theorem dX11_comes_3 : decode cX11_comes 3 = .ok (.iload 4, 2) := by decide +kernel
theorem dX11_comes_5 : decode cX11_comes 5 = .ok (.iload 5, 2) := by decide +kernel
theorem dX11_comes_7 : decode cX11_comes 7 = .ok (.invokevirtual 280, 3) := by decide +kernel
theorem dX11_comes_10 : decode cX11_comes 10 = .ok (.aload_n 0, 1) := by decide +kernel
theorem dX11_comes_11 : decode cX11_comes 11 = .ok (.getfield 66, 3) := by decide +kernel
theorem dX11_comes_14 : decode cX11_comes 14 = .ok (.iload_n 2, 1) := by decide +kernel
theorem dX11_comes_15 : decode cX11_comes 15 = .ok (.iaload, 1) := by decide +kernel
theorem dX11_comes_16 : decode cX11_comes 16 = .ok (.ireturn, 1) := by decide +kernel
theorem dX11_soonest_0 : decode cX11_soonest 0 = .ok (.aload_n 0, 1) := by decide +kernel
theorem dX11_soonest_1 : decode cX11_soonest 1 = .ok (.iload_n 1, 1) := by decide +kernel
theorem dX11_soonest_2 : decode cX11_soonest 2 = .ok (.invokevirtual 257, 3) := by decide +kernel
theorem dX11_soonest_5 : decode cX11_soonest 5 = .ok (.ifCond .eq 11, 3) := by decide +kernel
theorem dX11_soonest_8 : decode cX11_soonest 8 = .ok (.aload_n 0, 1) := by decide +kernel
theorem dX11_soonest_9 : decode cX11_soonest 9 = .ok (.iload_n 2, 1) := by decide +kernel
theorem dX11_soonest_10 : decode cX11_soonest 10 = .ok (.invokevirtual 257, 3) := by decide +kernel
theorem dX11_soonest_13 : decode cX11_soonest 13 = .ok (.ifCond .ne 7, 3) := by decide +kernel
theorem dX11_soonest_16 : decode cX11_soonest 16 = .ok (.sipush (-1001), 3) := by decide +kernel
theorem dX11_soonest_19 : decode cX11_soonest 19 = .ok (.ireturn, 1) := by decide +kernel
theorem dX11_soonest_20 : decode cX11_soonest 20 = .ok (.iload_n 3, 1) := by decide +kernel
theorem dX11_soonest_21 : decode cX11_soonest 21 = .ok (.invokestatic 260, 3) := by decide +kernel
theorem dX11_soonest_24 : decode cX11_soonest 24 = .ok (.ifCond .eq 25, 3) := by decide +kernel
theorem dX11_soonest_27 : decode cX11_soonest 27 = .ok (.iload 4, 2) := by decide +kernel
theorem dX11_soonest_29 : decode cX11_soonest 29 = .ok (.invokestatic 284, 3) := by decide +kernel
theorem dX11_soonest_32 : decode cX11_soonest 32 = .ok (.ifCond .eq 17, 3) := by decide +kernel
theorem dX11_soonest_35 : decode cX11_soonest 35 = .ok (.aload_n 0, 1) := by decide +kernel
theorem dX11_soonest_36 : decode cX11_soonest 36 = .ok (.iload_n 1, 1) := by decide +kernel
theorem dX11_soonest_37 : decode cX11_soonest 37 = .ok (.iload_n 2, 1) := by decide +kernel
theorem dX11_soonest_38 : decode cX11_soonest 38 = .ok (.iload_n 3, 1) := by decide +kernel
theorem dX11_soonest_39 : decode cX11_soonest 39 = .ok (.iload 4, 2) := by decide +kernel
theorem dX11_soonest_41 : decode cX11_soonest 41 = .ok (.iload 5, 2) := by decide +kernel
theorem dX11_soonest_43 : decode cX11_soonest 43 = .ok (.invokevirtual 287, 3) := by decide +kernel
theorem dX11_soonest_46 : decode cX11_soonest 46 = .ok (.goto 6, 3) := by decide +kernel
theorem dX11_soonest_49 : decode cX11_soonest 49 = .ok (.sipush (-1002), 3) := by decide +kernel
theorem dX11_soonest_52 : decode cX11_soonest 52 = .ok (.ireturn, 1) := by decide +kernel
theorem dX11_lastOf_0 : decode cX11_lastOf 0 = .ok (.bipush 99, 2) := by decide +kernel
theorem dX11_lastOf_2 : decode cX11_lastOf 2 = .ok (.istore 4, 2) := by decide +kernel
theorem dX11_lastOf_4 : decode cX11_lastOf 4 = .ok (.iload 4, 2) := by decide +kernel
theorem dX11_lastOf_6 : decode cX11_lastOf 6 = .ok (.ifCond .lt 28, 3) := by decide +kernel
theorem dX11_lastOf_9 : decode cX11_lastOf 9 = .ok (.aload_n 0, 1) := by decide +kernel
theorem dX11_lastOf_10 : decode cX11_lastOf 10 = .ok (.iload_n 1, 1) := by decide +kernel
theorem dX11_lastOf_11 : decode cX11_lastOf 11 = .ok (.aload_n 0, 1) := by decide +kernel
theorem dX11_lastOf_12 : decode cX11_lastOf 12 = .ok (.getfield 9, 3) := by decide +kernel
theorem dX11_lastOf_15 : decode cX11_lastOf 15 = .ok (.iload 4, 2) := by decide +kernel
theorem dX11_lastOf_17 : decode cX11_lastOf 17 = .ok (.iload_n 2, 1) := by decide +kernel
theorem dX11_lastOf_18 : decode cX11_lastOf 18 = .ok (.iload_n 3, 1) := by decide +kernel
theorem dX11_lastOf_19 : decode cX11_lastOf 19 = .ok (.invokevirtual 287, 3) := by decide +kernel
theorem dX11_lastOf_22 : decode cX11_lastOf 22 = .ok (.ifCond .lt 6, 3) := by decide +kernel
theorem dX11_lastOf_25 : decode cX11_lastOf 25 = .ok (.iload 4, 2) := by decide +kernel
theorem dX11_lastOf_27 : decode cX11_lastOf 27 = .ok (.ireturn, 1) := by decide +kernel
theorem dX11_lastOf_28 : decode cX11_lastOf 28 = .ok (.iinc 4 (-1), 3) := by decide +kernel
theorem dX11_lastOf_31 : decode cX11_lastOf 31 = .ok (.goto (-27), 3) := by decide +kernel
theorem dX11_lastOf_34 : decode cX11_lastOf 34 = .ok (.iconst (-1), 1) := by decide +kernel
theorem dX11_lastOf_35 : decode cX11_lastOf 35 = .ok (.ireturn, 1) := by decide +kernel
theorem dX11_last_0 : decode cX11_last 0 = .ok (.aload_n 0, 1) := by decide +kernel
theorem dX11_last_1 : decode cX11_last 1 = .ok (.iload_n 1, 1) := by decide +kernel
theorem dX11_last_2 : decode cX11_last 2 = .ok (.invokevirtual 257, 3) := by decide +kernel
theorem dX11_last_5 : decode cX11_last 5 = .ok (.ifCond .ne 7, 3) := by decide +kernel
theorem dX11_last_8 : decode cX11_last 8 = .ok (.sipush (-1001), 3) := by decide +kernel
theorem dX11_last_11 : decode cX11_last 11 = .ok (.ireturn, 1) := by decide +kernel
theorem dX11_last_12 : decode cX11_last 12 = .ok (.iload_n 2, 1) := by decide +kernel
theorem dX11_last_13 : decode cX11_last 13 = .ok (.invokestatic 284, 3) := by decide +kernel
theorem dX11_last_16 : decode cX11_last 16 = .ok (.ifCond .eq 13, 3) := by decide +kernel
theorem dX11_last_19 : decode cX11_last 19 = .ok (.aload_n 0, 1) := by decide +kernel
theorem dX11_last_20 : decode cX11_last 20 = .ok (.iload_n 1, 1) := by decide +kernel
theorem dX11_last_21 : decode cX11_last 21 = .ok (.iload_n 2, 1) := by decide +kernel
theorem dX11_last_22 : decode cX11_last 22 = .ok (.iload_n 3, 1) := by decide +kernel
theorem dX11_last_23 : decode cX11_last 23 = .ok (.invokevirtual 291, 3) := by decide +kernel
theorem dX11_last_26 : decode cX11_last 26 = .ok (.goto 6, 3) := by decide +kernel
theorem dX11_last_29 : decode cX11_last 29 = .ok (.sipush (-1002), 3) := by decide +kernel
theorem dX11_last_32 : decode cX11_last 32 = .ok (.ireturn, 1) := by decide +kernel
theorem dX11_open_0 : decode cX11_open 0 = .ok (.iload_n 1, 1) := by decide +kernel
theorem dX11_open_1 : decode cX11_open 1 = .ok (.invokestatic 260, 3) := by decide +kernel
theorem dX11_open_4 : decode cX11_open 4 = .ok (.ifCond .eq 10, 3) := by decide +kernel
theorem dX11_open_7 : decode cX11_open 7 = .ok (.iload_n 2, 1) := by decide +kernel
theorem dX11_open_8 : decode cX11_open 8 = .ok (.invokestatic 284, 3) := by decide +kernel
theorem dX11_open_11 : decode cX11_open 11 = .ok (.ifCond .ne 7, 3) := by decide +kernel
theorem dX11_open_14 : decode cX11_open 14 = .ok (.sipush (-1002), 3) := by decide +kernel
theorem dX11_open_17 : decode cX11_open 17 = .ok (.ireturn, 1) := by decide +kernel
theorem dX11_open_18 : decode cX11_open 18 = .ok (.iconst 0, 1) := by decide +kernel
theorem dX11_open_19 : decode cX11_open 19 = .ok (.istore 4, 2) := by decide +kernel
theorem dX11_open_21 : decode cX11_open 21 = .ok (.iconst 0, 1) := by decide +kernel
theorem dX11_open_22 : decode cX11_open 22 = .ok (.istore 5, 2) := by decide +kernel
theorem dX11_open_24 : decode cX11_open 24 = .ok (.iload 5, 2) := by decide +kernel
theorem dX11_open_26 : decode cX11_open 26 = .ok (.aload_n 0, 1) := by decide +kernel
theorem dX11_open_27 : decode cX11_open 27 = .ok (.getfield 133, 3) := by decide +kernel
theorem dX11_open_30 : decode cX11_open 30 = .ok (.if_icmp .ge 38, 3) := by decide +kernel
theorem dX11_open_33 : decode cX11_open 33 = .ok (.iload 4, 2) := by decide +kernel
theorem dX11_open_35 : decode cX11_open 35 = .ok (.aload_n 0, 1) := by decide +kernel
theorem dX11_open_36 : decode cX11_open 36 = .ok (.iload 5, 2) := by decide +kernel
theorem dX11_open_38 : decode cX11_open 38 = .ok (.aload_n 0, 1) := by decide +kernel
theorem dX11_open_39 : decode cX11_open 39 = .ok (.getfield 9, 3) := by decide +kernel
theorem dX11_open_42 : decode cX11_open 42 = .ok (.iload_n 1, 1) := by decide +kernel
theorem dX11_open_43 : decode cX11_open 43 = .ok (.iload_n 2, 1) := by decide +kernel
theorem dX11_open_44 : decode cX11_open 44 = .ok (.iload_n 3, 1) := by decide +kernel
theorem dX11_open_45 : decode cX11_open 45 = .ok (.invokevirtual 287, 3) := by decide +kernel
theorem dX11_open_48 : decode cX11_open 48 = .ok (.ifCond .lt 10, 3) := by decide +kernel
theorem dX11_open_51 : decode cX11_open 51 = .ok (.iconst 1, 1) := by decide +kernel
theorem dX11_open_52 : decode cX11_open 52 = .ok (.iload 5, 2) := by decide +kernel
theorem dX11_open_54 : decode cX11_open 54 = .ok (.ishl, 1) := by decide +kernel
theorem dX11_open_55 : decode cX11_open 55 = .ok (.goto 4, 3) := by decide +kernel
theorem dX11_open_58 : decode cX11_open 58 = .ok (.iconst 0, 1) := by decide +kernel
theorem dX11_open_59 : decode cX11_open 59 = .ok (.ior, 1) := by decide +kernel
theorem dX11_open_60 : decode cX11_open 60 = .ok (.istore 4, 2) := by decide +kernel
theorem dX11_open_62 : decode cX11_open 62 = .ok (.iinc 5 1, 3) := by decide +kernel
theorem dX11_open_65 : decode cX11_open 65 = .ok (.goto (-41), 3) := by decide +kernel
theorem dX11_open_68 : decode cX11_open 68 = .ok (.iload 4, 2) := by decide +kernel
theorem dX11_open_70 : decode cX11_open 70 = .ok (.ireturn, 1) := by decide +kernel
theorem dX11_at_0 : decode cX11_at 0 = .ok (.bipush 61, 2) := by decide +kernel
theorem dX11_at_2 : decode cX11_at 2 = .ok (.iload_n 0, 1) := by decide +kernel
theorem dX11_at_3 : decode cX11_at 3 = .ok (.imul, 1) := by decide +kernel
theorem dX11_at_4 : decode cX11_at 4 = .ok (.iload_n 1, 1) := by decide +kernel
theorem dX11_at_5 : decode cX11_at 5 = .ok (.iadd, 1) := by decide +kernel
theorem dX11_at_6 : decode cX11_at 6 = .ok (.ireturn, 1) := by decide +kernel
theorem dX11_come_0 : decode cX11_come 0 = .ok (.aload_n 0, 1) := by decide +kernel
theorem dX11_come_1 : decode cX11_come 1 = .ok (.getfield 81, 3) := by decide +kernel
theorem dX11_come_4 : decode cX11_come 4 = .ok (.iload_n 1, 1) := by decide +kernel
theorem dX11_come_5 : decode cX11_come 5 = .ok (.baload, 1) := by decide +kernel
theorem dX11_come_6 : decode cX11_come 6 = .ok (.ifCond .ne 44, 3) := by decide +kernel
theorem dX11_come_9 : decode cX11_come 9 = .ok (.aload_n 0, 1) := by decide +kernel
theorem dX11_come_10 : decode cX11_come 10 = .ok (.getfield 81, 3) := by decide +kernel
theorem dX11_come_13 : decode cX11_come 13 = .ok (.iload_n 1, 1) := by decide +kernel
theorem dX11_come_14 : decode cX11_come 14 = .ok (.iconst 1, 1) := by decide +kernel
theorem dX11_come_15 : decode cX11_come 15 = .ok (.bastore, 1) := by decide +kernel
theorem dX11_come_16 : decode cX11_come 16 = .ok (.aload_n 0, 1) := by decide +kernel
theorem dX11_come_17 : decode cX11_come 17 = .ok (.getfield 84, 3) := by decide +kernel
theorem dX11_come_20 : decode cX11_come 20 = .ok (.iload_n 1, 1) := by decide +kernel
theorem dX11_come_21 : decode cX11_come 21 = .ok (.iload_n 2, 1) := by decide +kernel
theorem dX11_come_22 : decode cX11_come 22 = .ok (.iastore, 1) := by decide +kernel
theorem dX11_come_23 : decode cX11_come 23 = .ok (.aload_n 0, 1) := by decide +kernel
theorem dX11_come_24 : decode cX11_come 24 = .ok (.getfield 87, 3) := by decide +kernel
theorem dX11_come_27 : decode cX11_come 27 = .ok (.iload_n 1, 1) := by decide +kernel
theorem dX11_come_28 : decode cX11_come 28 = .ok (.iload_n 3, 1) := by decide +kernel
theorem dX11_come_29 : decode cX11_come 29 = .ok (.iastore, 1) := by decide +kernel
theorem dX11_come_30 : decode cX11_come 30 = .ok (.aload_n 0, 1) := by decide +kernel
theorem dX11_come_31 : decode cX11_come 31 = .ok (.getfield 90, 3) := by decide +kernel
theorem dX11_come_34 : decode cX11_come 34 = .ok (.aload_n 0, 1) := by decide +kernel
theorem dX11_come_35 : decode cX11_come 35 = .ok (.getfield 295, 3) := by decide +kernel
theorem dX11_come_38 : decode cX11_come 38 = .ok (.iload_n 1, 1) := by decide +kernel
theorem dX11_come_39 : decode cX11_come 39 = .ok (.iastore, 1) := by decide +kernel
theorem dX11_come_40 : decode cX11_come 40 = .ok (.aload_n 0, 1) := by decide +kernel
theorem dX11_come_41 : decode cX11_come 41 = .ok (.dup, 1) := by decide +kernel
theorem dX11_come_42 : decode cX11_come 42 = .ok (.getfield 295, 3) := by decide +kernel
theorem dX11_come_45 : decode cX11_come 45 = .ok (.iconst 1, 1) := by decide +kernel
theorem dX11_come_46 : decode cX11_come 46 = .ok (.iadd, 1) := by decide +kernel
theorem dX11_come_47 : decode cX11_come 47 = .ok (.putfield 295, 3) := by decide +kernel
theorem dX11_come_50 : decode cX11_come 50 = .ok (.return_, 1) := by decide +kernel
theorem dX11_menAt_0 : decode cX11_menAt 0 = .ok (.iconst 0, 1) := by decide +kernel
theorem dX11_menAt_1 : decode cX11_menAt 1 = .ok (.istore_n 2, 1) := by decide +kernel
theorem dX11_menAt_2 : decode cX11_menAt 2 = .ok (.iconst 0, 1) := by decide +kernel
theorem dX11_menAt_3 : decode cX11_menAt 3 = .ok (.istore_n 3, 1) := by decide +kernel
theorem dX11_menAt_4 : decode cX11_menAt 4 = .ok (.iload_n 3, 1) := by decide +kernel
theorem dX11_menAt_5 : decode cX11_menAt 5 = .ok (.aload_n 0, 1) := by decide +kernel
theorem dX11_menAt_6 : decode cX11_menAt 6 = .ok (.getfield 240, 3) := by decide +kernel
theorem dX11_menAt_9 : decode cX11_menAt 9 = .ok (.if_icmp .ge 27, 3) := by decide +kernel
theorem dX11_menAt_12 : decode cX11_menAt 12 = .ok (.iload_n 2, 1) := by decide +kernel
theorem dX11_menAt_13 : decode cX11_menAt 13 = .ok (.aload_n 0, 1) := by decide +kernel
theorem dX11_menAt_14 : decode cX11_menAt 14 = .ok (.getfield 48, 3) := by decide +kernel
theorem dX11_menAt_17 : decode cX11_menAt 17 = .ok (.iload_n 3, 1) := by decide +kernel
theorem dX11_menAt_18 : decode cX11_menAt 18 = .ok (.iaload, 1) := by decide +kernel
theorem dX11_menAt_19 : decode cX11_menAt 19 = .ok (.iload_n 1, 1) := by decide +kernel
theorem dX11_menAt_20 : decode cX11_menAt 20 = .ok (.if_icmp .ne 7, 3) := by decide +kernel
theorem dX11_menAt_23 : decode cX11_menAt 23 = .ok (.iconst 1, 1) := by decide +kernel
theorem dX11_menAt_24 : decode cX11_menAt 24 = .ok (.goto 4, 3) := by decide +kernel
theorem dX11_menAt_27 : decode cX11_menAt 27 = .ok (.iconst 0, 1) := by decide +kernel
theorem dX11_menAt_28 : decode cX11_menAt 28 = .ok (.iadd, 1) := by decide +kernel
theorem dX11_menAt_29 : decode cX11_menAt 29 = .ok (.istore_n 2, 1) := by decide +kernel
theorem dX11_menAt_30 : decode cX11_menAt 30 = .ok (.iinc 3 1, 3) := by decide +kernel
theorem dX11_menAt_33 : decode cX11_menAt 33 = .ok (.goto (-29), 3) := by decide +kernel
theorem dX11_menAt_36 : decode cX11_menAt 36 = .ok (.iload_n 2, 1) := by decide +kernel
theorem dX11_menAt_37 : decode cX11_menAt 37 = .ok (.ireturn, 1) := by decide +kernel
theorem dX11_side_0 : decode cX11_side 0 = .ok (.aload_n 0, 1) := by decide +kernel
theorem dX11_side_1 : decode cX11_side 1 = .ok (.getfield 13, 3) := by decide +kernel
theorem dX11_side_4 : decode cX11_side 4 = .ok (.iload_n 1, 1) := by decide +kernel
theorem dX11_side_5 : decode cX11_side 5 = .ok (.iaload, 1) := by decide +kernel
theorem dX11_side_6 : decode cX11_side 6 = .ok (.iload_n 2, 1) := by decide +kernel
theorem dX11_side_7 : decode cX11_side 7 = .ok (.if_icmp .ne 7, 3) := by decide +kernel
theorem dX11_side_10 : decode cX11_side 10 = .ok (.iconst 0, 1) := by decide +kernel
theorem dX11_side_11 : decode cX11_side 11 = .ok (.goto 18, 3) := by decide +kernel
theorem dX11_side_14 : decode cX11_side 14 = .ok (.aload_n 0, 1) := by decide +kernel
theorem dX11_side_15 : decode cX11_side 15 = .ok (.getfield 17, 3) := by decide +kernel
theorem dX11_side_18 : decode cX11_side 18 = .ok (.iload_n 1, 1) := by decide +kernel
theorem dX11_side_19 : decode cX11_side 19 = .ok (.iaload, 1) := by decide +kernel
theorem dX11_side_20 : decode cX11_side 20 = .ok (.iload_n 2, 1) := by decide +kernel
theorem dX11_side_21 : decode cX11_side 21 = .ok (.if_icmp .ne 7, 3) := by decide +kernel
theorem dX11_side_24 : decode cX11_side 24 = .ok (.iconst 1, 1) := by decide +kernel
theorem dX11_side_25 : decode cX11_side 25 = .ok (.goto 4, 3) := by decide +kernel
theorem dX11_side_28 : decode cX11_side 28 = .ok (.iconst (-1), 1) := by decide +kernel
theorem dX11_side_29 : decode cX11_side 29 = .ok (.ireturn, 1) := by decide +kernel
theorem dX11_goOn_0 : decode cX11_goOn 0 = .ok (.aload_n 0, 1) := by decide +kernel
theorem dX11_goOn_1 : decode cX11_goOn 1 = .ok (.iload_n 1, 1) := by decide +kernel
theorem dX11_goOn_2 : decode cX11_goOn 2 = .ok (.iload_n 2, 1) := by decide +kernel
theorem dX11_goOn_3 : decode cX11_goOn 3 = .ok (.invokevirtual 298, 3) := by decide +kernel
theorem dX11_goOn_6 : decode cX11_goOn 6 = .ok (.istore 5, 2) := by decide +kernel
theorem dX11_goOn_8 : decode cX11_goOn 8 = .ok (.iload 5, 2) := by decide +kernel
theorem dX11_goOn_10 : decode cX11_goOn 10 = .ok (.ifCond .lt 12, 3) := by decide +kernel
theorem dX11_goOn_13 : decode cX11_goOn 13 = .ok (.aload_n 0, 1) := by decide +kernel
theorem dX11_goOn_14 : decode cX11_goOn 14 = .ok (.getfield 35, 3) := by decide +kernel
theorem dX11_goOn_17 : decode cX11_goOn 17 = .ok (.iload_n 1, 1) := by decide +kernel
theorem dX11_goOn_18 : decode cX11_goOn 18 = .ok (.baload, 1) := by decide +kernel
theorem dX11_goOn_19 : decode cX11_goOn 19 = .ok (.ifCond .eq 4, 3) := by decide +kernel
theorem dX11_goOn_22 : decode cX11_goOn 22 = .ok (.return_, 1) := by decide +kernel
theorem dX11_goOn_23 : decode cX11_goOn 23 = .ok (.iload 5, 2) := by decide +kernel
theorem dX11_goOn_25 : decode cX11_goOn 25 = .ok (.ifCond .ne 12, 3) := by decide +kernel
theorem dX11_goOn_28 : decode cX11_goOn 28 = .ok (.aload_n 0, 1) := by decide +kernel
theorem dX11_goOn_29 : decode cX11_goOn 29 = .ok (.getfield 17, 3) := by decide +kernel
theorem dX11_goOn_32 : decode cX11_goOn 32 = .ok (.iload_n 1, 1) := by decide +kernel
theorem dX11_goOn_33 : decode cX11_goOn 33 = .ok (.iaload, 1) := by decide +kernel
theorem dX11_goOn_34 : decode cX11_goOn 34 = .ok (.goto 9, 3) := by decide +kernel
theorem dX11_goOn_37 : decode cX11_goOn 37 = .ok (.aload_n 0, 1) := by decide +kernel
theorem dX11_goOn_38 : decode cX11_goOn 38 = .ok (.getfield 13, 3) := by decide +kernel
theorem dX11_goOn_41 : decode cX11_goOn 41 = .ok (.iload_n 1, 1) := by decide +kernel
theorem dX11_goOn_42 : decode cX11_goOn 42 = .ok (.iaload, 1) := by decide +kernel
theorem dX11_goOn_43 : decode cX11_goOn 43 = .ok (.istore 6, 2) := by decide +kernel
theorem dX11_goOn_45 : decode cX11_goOn 45 = .ok (.iload_n 3, 1) := by decide +kernel
theorem dX11_goOn_46 : decode cX11_goOn 46 = .ok (.aload_n 0, 1) := by decide +kernel
theorem dX11_goOn_47 : decode cX11_goOn 47 = .ok (.getfield 20, 3) := by decide +kernel
theorem dX11_goOn_50 : decode cX11_goOn 50 = .ok (.iload_n 1, 1) := by decide +kernel
theorem dX11_goOn_51 : decode cX11_goOn 51 = .ok (.iaload, 1) := by decide +kernel
theorem dX11_goOn_52 : decode cX11_goOn 52 = .ok (.iadd, 1) := by decide +kernel
theorem dX11_goOn_53 : decode cX11_goOn 53 = .ok (.istore 7, 2) := by decide +kernel
theorem dX11_goOn_55 : decode cX11_goOn 55 = .ok (.iload 7, 2) := by decide +kernel
theorem dX11_goOn_57 : decode cX11_goOn 57 = .ok (.iload 4, 2) := by decide +kernel
theorem dX11_goOn_59 : decode cX11_goOn 59 = .ok (.if_icmp .gt 61, 3) := by decide +kernel
theorem dX11_goOn_62 : decode cX11_goOn 62 = .ok (.iload 7, 2) := by decide +kernel
theorem dX11_goOn_64 : decode cX11_goOn 64 = .ok (.aload_n 0, 1) := by decide +kernel
theorem dX11_goOn_65 : decode cX11_goOn 65 = .ok (.getfield 29, 3) := by decide +kernel
theorem dX11_goOn_68 : decode cX11_goOn 68 = .ok (.iload_n 1, 1) := by decide +kernel
theorem dX11_goOn_69 : decode cX11_goOn 69 = .ok (.iaload, 1) := by decide +kernel
theorem dX11_goOn_70 : decode cX11_goOn 70 = .ok (.if_icmp .gt 50, 3) := by decide +kernel
theorem dX11_goOn_73 : decode cX11_goOn 73 = .ok (.aload_n 0, 1) := by decide +kernel
theorem dX11_goOn_74 : decode cX11_goOn 74 = .ok (.getfield 69, 3) := by decide +kernel
theorem dX11_goOn_77 : decode cX11_goOn 77 = .ok (.bipush 61, 2) := by decide +kernel
theorem dX11_goOn_79 : decode cX11_goOn 79 = .ok (.iconst 2, 1) := by decide +kernel
theorem dX11_goOn_80 : decode cX11_goOn 80 = .ok (.iload_n 1, 1) := by decide +kernel
theorem dX11_goOn_81 : decode cX11_goOn 81 = .ok (.imul, 1) := by decide +kernel
theorem dX11_goOn_82 : decode cX11_goOn 82 = .ok (.iload 5, 2) := by decide +kernel
theorem dX11_goOn_84 : decode cX11_goOn 84 = .ok (.iadd, 1) := by decide +kernel
theorem dX11_goOn_85 : decode cX11_goOn 85 = .ok (.imul, 1) := by decide +kernel
theorem dX11_goOn_86 : decode cX11_goOn 86 = .ok (.iload_n 3, 1) := by decide +kernel
theorem dX11_goOn_87 : decode cX11_goOn 87 = .ok (.iadd, 1) := by decide +kernel
theorem dX11_goOn_88 : decode cX11_goOn 88 = .ok (.iaload, 1) := by decide +kernel
theorem dX11_goOn_89 : decode cX11_goOn 89 = .ok (.aload_n 0, 1) := by decide +kernel
theorem dX11_goOn_90 : decode cX11_goOn 90 = .ok (.getfield 26, 3) := by decide +kernel
theorem dX11_goOn_93 : decode cX11_goOn 93 = .ok (.iload_n 1, 1) := by decide +kernel
theorem dX11_goOn_94 : decode cX11_goOn 94 = .ok (.iaload, 1) := by decide +kernel
theorem dX11_goOn_95 : decode cX11_goOn 95 = .ok (.if_icmp .ge 25, 3) := by decide +kernel
theorem dX11_goOn_98 : decode cX11_goOn 98 = .ok (.aload_n 0, 1) := by decide +kernel
theorem dX11_goOn_99 : decode cX11_goOn 99 = .ok (.iload 6, 2) := by decide +kernel
theorem dX11_goOn_101 : decode cX11_goOn 101 = .ok (.iload 7, 2) := by decide +kernel
theorem dX11_goOn_103 : decode cX11_goOn 103 = .ok (.invokestatic 301, 3) := by decide +kernel
theorem dX11_goOn_106 : decode cX11_goOn 106 = .ok (.iload_n 2, 1) := by decide +kernel
theorem dX11_goOn_107 : decode cX11_goOn 107 = .ok (.iload_n 3, 1) := by decide +kernel
theorem dX11_goOn_108 : decode cX11_goOn 108 = .ok (.invokestatic 301, 3) := by decide +kernel
theorem dX11_goOn_111 : decode cX11_goOn 111 = .ok (.iconst 2, 1) := by decide +kernel
theorem dX11_goOn_112 : decode cX11_goOn 112 = .ok (.iload_n 1, 1) := by decide +kernel
theorem dX11_goOn_113 : decode cX11_goOn 113 = .ok (.imul, 1) := by decide +kernel
theorem dX11_goOn_114 : decode cX11_goOn 114 = .ok (.iload 5, 2) := by decide +kernel
theorem dX11_goOn_116 : decode cX11_goOn 116 = .ok (.iadd, 1) := by decide +kernel
theorem dX11_goOn_117 : decode cX11_goOn 117 = .ok (.invokevirtual 304, 3) := by decide +kernel
theorem dX11_goOn_120 : decode cX11_goOn 120 = .ok (.iload_n 3, 1) := by decide +kernel
theorem dX11_goOn_121 : decode cX11_goOn 121 = .ok (.aload_n 0, 1) := by decide +kernel
theorem dX11_goOn_122 : decode cX11_goOn 122 = .ok (.getfield 20, 3) := by decide +kernel
theorem dX11_goOn_125 : decode cX11_goOn 125 = .ok (.iload_n 1, 1) := by decide +kernel
theorem dX11_goOn_126 : decode cX11_goOn 126 = .ok (.iaload, 1) := by decide +kernel
theorem dX11_goOn_127 : decode cX11_goOn 127 = .ok (.isub, 1) := by decide +kernel
theorem dX11_goOn_128 : decode cX11_goOn 128 = .ok (.istore 8, 2) := by decide +kernel
theorem dX11_goOn_130 : decode cX11_goOn 130 = .ok (.iload 8, 2) := by decide +kernel
theorem dX11_goOn_132 : decode cX11_goOn 132 = .ok (.ifCond .lt 52, 3) := by decide +kernel
theorem dX11_goOn_135 : decode cX11_goOn 135 = .ok (.aload_n 0, 1) := by decide +kernel
theorem dX11_goOn_136 : decode cX11_goOn 136 = .ok (.getfield 69, 3) := by decide +kernel
theorem dX11_goOn_139 : decode cX11_goOn 139 = .ok (.bipush 61, 2) := by decide +kernel
theorem dX11_goOn_141 : decode cX11_goOn 141 = .ok (.iconst 2, 1) := by decide +kernel
theorem dX11_goOn_142 : decode cX11_goOn 142 = .ok (.iload_n 1, 1) := by decide +kernel
theorem dX11_goOn_143 : decode cX11_goOn 143 = .ok (.imul, 1) := by decide +kernel
theorem dX11_goOn_144 : decode cX11_goOn 144 = .ok (.iconst 1, 1) := by decide +kernel
theorem dX11_goOn_145 : decode cX11_goOn 145 = .ok (.iadd, 1) := by decide +kernel
theorem dX11_goOn_146 : decode cX11_goOn 146 = .ok (.iload 5, 2) := by decide +kernel
theorem dX11_goOn_148 : decode cX11_goOn 148 = .ok (.isub, 1) := by decide +kernel
theorem dX11_goOn_149 : decode cX11_goOn 149 = .ok (.imul, 1) := by decide +kernel
theorem dX11_goOn_150 : decode cX11_goOn 150 = .ok (.iload 8, 2) := by decide +kernel
theorem dX11_goOn_152 : decode cX11_goOn 152 = .ok (.iadd, 1) := by decide +kernel
theorem dX11_goOn_153 : decode cX11_goOn 153 = .ok (.iaload, 1) := by decide +kernel
theorem dX11_goOn_154 : decode cX11_goOn 154 = .ok (.ifCond .le 30, 3) := by decide +kernel
theorem dX11_goOn_157 : decode cX11_goOn 157 = .ok (.aload_n 0, 1) := by decide +kernel
theorem dX11_goOn_158 : decode cX11_goOn 158 = .ok (.iload 6, 2) := by decide +kernel
theorem dX11_goOn_160 : decode cX11_goOn 160 = .ok (.iload 8, 2) := by decide +kernel
theorem dX11_goOn_162 : decode cX11_goOn 162 = .ok (.invokestatic 301, 3) := by decide +kernel
theorem dX11_goOn_165 : decode cX11_goOn 165 = .ok (.iload_n 2, 1) := by decide +kernel
theorem dX11_goOn_166 : decode cX11_goOn 166 = .ok (.iload_n 3, 1) := by decide +kernel
theorem dX11_goOn_167 : decode cX11_goOn 167 = .ok (.invokestatic 301, 3) := by decide +kernel
theorem dX11_goOn_170 : decode cX11_goOn 170 = .ok (.bipush 100, 2) := by decide +kernel
theorem dX11_goOn_172 : decode cX11_goOn 172 = .ok (.iconst 2, 1) := by decide +kernel
theorem dX11_goOn_173 : decode cX11_goOn 173 = .ok (.iload_n 1, 1) := by decide +kernel
theorem dX11_goOn_174 : decode cX11_goOn 174 = .ok (.imul, 1) := by decide +kernel
theorem dX11_goOn_175 : decode cX11_goOn 175 = .ok (.iadd, 1) := by decide +kernel
theorem dX11_goOn_176 : decode cX11_goOn 176 = .ok (.iconst 1, 1) := by decide +kernel
theorem dX11_goOn_177 : decode cX11_goOn 177 = .ok (.iadd, 1) := by decide +kernel
theorem dX11_goOn_178 : decode cX11_goOn 178 = .ok (.iload 5, 2) := by decide +kernel
theorem dX11_goOn_180 : decode cX11_goOn 180 = .ok (.isub, 1) := by decide +kernel
theorem dX11_goOn_181 : decode cX11_goOn 181 = .ok (.invokevirtual 304, 3) := by decide +kernel
theorem dX11_goOn_184 : decode cX11_goOn 184 = .ok (.return_, 1) := by decide +kernel
theorem dX11_seek_0 : decode cX11_seek 0 = .ok (.aload_n 0, 1) := by decide +kernel
theorem dX11_seek_1 : decode cX11_seek 1 = .ok (.iconst 0, 1) := by decide +kernel
theorem dX11_seek_2 : decode cX11_seek 2 = .ok (.putfield 295, 3) := by decide +kernel
theorem dX11_seek_5 : decode cX11_seek 5 = .ok (.iconst 0, 1) := by decide +kernel
theorem dX11_seek_6 : decode cX11_seek 6 = .ok (.istore_n 2, 1) := by decide +kernel
theorem dX11_seek_7 : decode cX11_seek 7 = .ok (.iload_n 2, 1) := by decide +kernel
theorem dX11_seek_8 : decode cX11_seek 8 = .ok (.sipush 732, 3) := by decide +kernel
theorem dX11_seek_11 : decode cX11_seek 11 = .ok (.if_icmp .ge 16, 3) := by decide +kernel
theorem dX11_seek_14 : decode cX11_seek 14 = .ok (.aload_n 0, 1) := by decide +kernel
theorem dX11_seek_15 : decode cX11_seek 15 = .ok (.getfield 81, 3) := by decide +kernel
theorem dX11_seek_18 : decode cX11_seek 18 = .ok (.iload_n 2, 1) := by decide +kernel
theorem dX11_seek_19 : decode cX11_seek 19 = .ok (.iconst 0, 1) := by decide +kernel
theorem dX11_seek_20 : decode cX11_seek 20 = .ok (.bastore, 1) := by decide +kernel
theorem dX11_seek_21 : decode cX11_seek 21 = .ok (.iinc 2 1, 3) := by decide +kernel
theorem dX11_seek_24 : decode cX11_seek 24 = .ok (.goto (-17), 3) := by decide +kernel
theorem dX11_seek_27 : decode cX11_seek 27 = .ok (.iconst 0, 1) := by decide +kernel
theorem dX11_seek_28 : decode cX11_seek 28 = .ok (.istore_n 2, 1) := by decide +kernel
theorem dX11_seek_29 : decode cX11_seek 29 = .ok (.iload_n 2, 1) := by decide +kernel
theorem dX11_seek_30 : decode cX11_seek 30 = .ok (.aload_n 0, 1) := by decide +kernel
theorem dX11_seek_31 : decode cX11_seek 31 = .ok (.getfield 133, 3) := by decide +kernel
theorem dX11_seek_34 : decode cX11_seek 34 = .ok (.if_icmp .ge 34, 3) := by decide +kernel
theorem dX11_seek_37 : decode cX11_seek 37 = .ok (.aload_n 0, 1) := by decide +kernel
theorem dX11_seek_38 : decode cX11_seek 38 = .ok (.getfield 78, 3) := by decide +kernel
theorem dX11_seek_41 : decode cX11_seek 41 = .ok (.iload_n 2, 1) := by decide +kernel
theorem dX11_seek_42 : decode cX11_seek 42 = .ok (.iaload, 1) := by decide +kernel
theorem dX11_seek_43 : decode cX11_seek 43 = .ok (.aload_n 0, 1) := by decide +kernel
theorem dX11_seek_44 : decode cX11_seek 44 = .ok (.iload_n 2, 1) := by decide +kernel
theorem dX11_seek_45 : decode cX11_seek 45 = .ok (.invokevirtual 308, 3) := by decide +kernel
theorem dX11_seek_48 : decode cX11_seek 48 = .ok (.if_icmp .ge 14, 3) := by decide +kernel
theorem dX11_seek_51 : decode cX11_seek 51 = .ok (.aload_n 0, 1) := by decide +kernel
theorem dX11_seek_52 : decode cX11_seek 52 = .ok (.iload_n 2, 1) := by decide +kernel
theorem dX11_seek_53 : decode cX11_seek 53 = .ok (.iconst 0, 1) := by decide +kernel
theorem dX11_seek_54 : decode cX11_seek 54 = .ok (.invokestatic 301, 3) := by decide +kernel
theorem dX11_seek_57 : decode cX11_seek 57 = .ok (.iconst (-1), 1) := by decide +kernel
theorem dX11_seek_58 : decode cX11_seek 58 = .ok (.iconst (-1), 1) := by decide +kernel
theorem dX11_seek_59 : decode cX11_seek 59 = .ok (.invokevirtual 304, 3) := by decide +kernel
theorem dX11_seek_62 : decode cX11_seek 62 = .ok (.iinc 2 1, 3) := by decide +kernel
theorem dX11_seek_65 : decode cX11_seek 65 = .ok (.goto (-36), 3) := by decide +kernel
theorem dX11_seek_68 : decode cX11_seek 68 = .ok (.iconst 0, 1) := by decide +kernel
theorem dX11_seek_69 : decode cX11_seek 69 = .ok (.istore_n 2, 1) := by decide +kernel
theorem dX11_seek_70 : decode cX11_seek 70 = .ok (.iload_n 2, 1) := by decide +kernel
theorem dX11_seek_71 : decode cX11_seek 71 = .ok (.aload_n 0, 1) := by decide +kernel
theorem dX11_seek_72 : decode cX11_seek 72 = .ok (.getfield 295, 3) := by decide +kernel
theorem dX11_seek_75 : decode cX11_seek 75 = .ok (.if_icmp .ge 156, 3) := by decide +kernel
theorem dX11_seek_78 : decode cX11_seek 78 = .ok (.aload_n 0, 1) := by decide +kernel
theorem dX11_seek_79 : decode cX11_seek 79 = .ok (.getfield 90, 3) := by decide +kernel
theorem dX11_seek_82 : decode cX11_seek 82 = .ok (.iload_n 2, 1) := by decide +kernel
theorem dX11_seek_83 : decode cX11_seek 83 = .ok (.iaload, 1) := by decide +kernel
theorem dX11_seek_84 : decode cX11_seek 84 = .ok (.bipush 61, 2) := by decide +kernel
theorem dX11_seek_86 : decode cX11_seek 86 = .ok (.idiv, 1) := by decide +kernel
theorem dX11_seek_87 : decode cX11_seek 87 = .ok (.istore_n 3, 1) := by decide +kernel
theorem dX11_seek_88 : decode cX11_seek 88 = .ok (.aload_n 0, 1) := by decide +kernel
theorem dX11_seek_89 : decode cX11_seek 89 = .ok (.getfield 90, 3) := by decide +kernel
theorem dX11_seek_92 : decode cX11_seek 92 = .ok (.iload_n 2, 1) := by decide +kernel
theorem dX11_seek_93 : decode cX11_seek 93 = .ok (.iaload, 1) := by decide +kernel
theorem dX11_seek_94 : decode cX11_seek 94 = .ok (.bipush 61, 2) := by decide +kernel
theorem dX11_seek_96 : decode cX11_seek 96 = .ok (.irem, 1) := by decide +kernel
theorem dX11_seek_97 : decode cX11_seek 97 = .ok (.istore 4, 2) := by decide +kernel
theorem dX11_seek_99 : decode cX11_seek 99 = .ok (.iload_n 3, 1) := by decide +kernel
theorem dX11_seek_100 : decode cX11_seek 100 = .ok (.aload_n 0, 1) := by decide +kernel
theorem dX11_seek_101 : decode cX11_seek 101 = .ok (.getfield 9, 3) := by decide +kernel
theorem dX11_seek_104 : decode cX11_seek 104 = .ok (.if_icmp .ne 24, 3) := by decide +kernel
theorem dX11_seek_107 : decode cX11_seek 107 = .ok (.aload_n 0, 1) := by decide +kernel
theorem dX11_seek_108 : decode cX11_seek 108 = .ok (.getfield 75, 3) := by decide +kernel
theorem dX11_seek_111 : decode cX11_seek 111 = .ok (.iload 4, 2) := by decide +kernel
theorem dX11_seek_113 : decode cX11_seek 113 = .ok (.iaload, 1) := by decide +kernel
theorem dX11_seek_114 : decode cX11_seek 114 = .ok (.aload_n 0, 1) := by decide +kernel
theorem dX11_seek_115 : decode cX11_seek 115 = .ok (.getfield 237, 3) := by decide +kernel
theorem dX11_seek_118 : decode cX11_seek 118 = .ok (.if_icmp .ge 10, 3) := by decide +kernel
theorem dX11_seek_121 : decode cX11_seek 121 = .ok (.aload_n 0, 1) := by decide +kernel
theorem dX11_seek_122 : decode cX11_seek 122 = .ok (.getfield 90, 3) := by decide +kernel
theorem dX11_seek_125 : decode cX11_seek 125 = .ok (.iload_n 2, 1) := by decide +kernel
theorem dX11_seek_126 : decode cX11_seek 126 = .ok (.iaload, 1) := by decide +kernel
theorem dX11_seek_127 : decode cX11_seek 127 = .ok (.ireturn, 1) := by decide +kernel
theorem dX11_seek_128 : decode cX11_seek 128 = .ok (.iconst 0, 1) := by decide +kernel
theorem dX11_seek_129 : decode cX11_seek 129 = .ok (.istore 5, 2) := by decide +kernel
theorem dX11_seek_131 : decode cX11_seek 131 = .ok (.iload 5, 2) := by decide +kernel
theorem dX11_seek_133 : decode cX11_seek 133 = .ok (.aload_n 0, 1) := by decide +kernel
theorem dX11_seek_134 : decode cX11_seek 134 = .ok (.getfield 140, 3) := by decide +kernel
theorem dX11_seek_137 : decode cX11_seek 137 = .ok (.if_icmp .ge 19, 3) := by decide +kernel
theorem dX11_seek_140 : decode cX11_seek 140 = .ok (.aload_n 0, 1) := by decide +kernel
theorem dX11_seek_141 : decode cX11_seek 141 = .ok (.iload 5, 2) := by decide +kernel
theorem dX11_seek_143 : decode cX11_seek 143 = .ok (.iload_n 3, 1) := by decide +kernel
theorem dX11_seek_144 : decode cX11_seek 144 = .ok (.iload 4, 2) := by decide +kernel
theorem dX11_seek_146 : decode cX11_seek 146 = .ok (.iload_n 1, 1) := by decide +kernel
theorem dX11_seek_147 : decode cX11_seek 147 = .ok (.invokevirtual 312, 3) := by decide +kernel
theorem dX11_seek_150 : decode cX11_seek 150 = .ok (.iinc 5 1, 3) := by decide +kernel
theorem dX11_seek_153 : decode cX11_seek 153 = .ok (.goto (-22), 3) := by decide +kernel
theorem dX11_seek_156 : decode cX11_seek 156 = .ok (.iload 4, 2) := by decide +kernel
theorem dX11_seek_158 : decode cX11_seek 158 = .ok (.iload_n 1, 1) := by decide +kernel
theorem dX11_seek_159 : decode cX11_seek 159 = .ok (.if_icmp .ge 24, 3) := by decide +kernel
theorem dX11_seek_162 : decode cX11_seek 162 = .ok (.aload_n 0, 1) := by decide +kernel
theorem dX11_seek_163 : decode cX11_seek 163 = .ok (.iload_n 3, 1) := by decide +kernel
theorem dX11_seek_164 : decode cX11_seek 164 = .ok (.iload 4, 2) := by decide +kernel
theorem dX11_seek_166 : decode cX11_seek 166 = .ok (.iconst 1, 1) := by decide +kernel
theorem dX11_seek_167 : decode cX11_seek 167 = .ok (.iadd, 1) := by decide +kernel
theorem dX11_seek_168 : decode cX11_seek 168 = .ok (.invokestatic 301, 3) := by decide +kernel
theorem dX11_seek_171 : decode cX11_seek 171 = .ok (.iload_n 3, 1) := by decide +kernel
theorem dX11_seek_172 : decode cX11_seek 172 = .ok (.iload 4, 2) := by decide +kernel
theorem dX11_seek_174 : decode cX11_seek 174 = .ok (.invokestatic 301, 3) := by decide +kernel
theorem dX11_seek_177 : decode cX11_seek 177 = .ok (.sipush 200, 3) := by decide +kernel
theorem dX11_seek_180 : decode cX11_seek 180 = .ok (.invokevirtual 304, 3) := by decide +kernel
theorem dX11_seek_183 : decode cX11_seek 183 = .ok (.iload 4, 2) := by decide +kernel
theorem dX11_seek_185 : decode cX11_seek 185 = .ok (.ifCond .le 40, 3) := by decide +kernel
theorem dX11_seek_188 : decode cX11_seek 188 = .ok (.aload_n 0, 1) := by decide +kernel
theorem dX11_seek_189 : decode cX11_seek 189 = .ok (.getfield 72, 3) := by decide +kernel
theorem dX11_seek_192 : decode cX11_seek 192 = .ok (.iload_n 3, 1) := by decide +kernel
theorem dX11_seek_193 : decode cX11_seek 193 = .ok (.iload 4, 2) := by decide +kernel
theorem dX11_seek_195 : decode cX11_seek 195 = .ok (.iconst 1, 1) := by decide +kernel
theorem dX11_seek_196 : decode cX11_seek 196 = .ok (.isub, 1) := by decide +kernel
theorem dX11_seek_197 : decode cX11_seek 197 = .ok (.invokestatic 301, 3) := by decide +kernel
theorem dX11_seek_200 : decode cX11_seek 200 = .ok (.iaload, 1) := by decide +kernel
theorem dX11_seek_201 : decode cX11_seek 201 = .ok (.ifCond .le 24, 3) := by decide +kernel
theorem dX11_seek_204 : decode cX11_seek 204 = .ok (.aload_n 0, 1) := by decide +kernel
theorem dX11_seek_205 : decode cX11_seek 205 = .ok (.iload_n 3, 1) := by decide +kernel
theorem dX11_seek_206 : decode cX11_seek 206 = .ok (.iload 4, 2) := by decide +kernel
theorem dX11_seek_208 : decode cX11_seek 208 = .ok (.iconst 1, 1) := by decide +kernel
theorem dX11_seek_209 : decode cX11_seek 209 = .ok (.isub, 1) := by decide +kernel
theorem dX11_seek_210 : decode cX11_seek 210 = .ok (.invokestatic 301, 3) := by decide +kernel
theorem dX11_seek_213 : decode cX11_seek 213 = .ok (.iload_n 3, 1) := by decide +kernel
theorem dX11_seek_214 : decode cX11_seek 214 = .ok (.iload 4, 2) := by decide +kernel
theorem dX11_seek_216 : decode cX11_seek 216 = .ok (.invokestatic 301, 3) := by decide +kernel
theorem dX11_seek_219 : decode cX11_seek 219 = .ok (.sipush 300, 3) := by decide +kernel
theorem dX11_seek_222 : decode cX11_seek 222 = .ok (.invokevirtual 304, 3) := by decide +kernel
theorem dX11_seek_225 : decode cX11_seek 225 = .ok (.iinc 2 1, 3) := by decide +kernel
theorem dX11_seek_228 : decode cX11_seek 228 = .ok (.goto (-158), 3) := by decide +kernel
theorem dX11_seek_231 : decode cX11_seek 231 = .ok (.iconst (-1), 1) := by decide +kernel
theorem dX11_seek_232 : decode cX11_seek 232 = .ok (.ireturn, 1) := by decide +kernel
theorem dX11_send_0 : decode cX11_send 0 = .ok (.aload_n 0, 1) := by decide +kernel
theorem dX11_send_1 : decode cX11_send 1 = .ok (.getfield 75, 3) := by decide +kernel
theorem dX11_send_4 : decode cX11_send 4 = .ok (.iload_n 1, 1) := by decide +kernel
theorem dX11_send_5 : decode cX11_send 5 = .ok (.bipush 61, 2) := by decide +kernel
theorem dX11_send_7 : decode cX11_send 7 = .ok (.irem, 1) := by decide +kernel
theorem dX11_send_8 : decode cX11_send 8 = .ok (.dup2, 1) := by decide +kernel
theorem dX11_send_9 : decode cX11_send 9 = .ok (.iaload, 1) := by decide +kernel
theorem dX11_send_10 : decode cX11_send 10 = .ok (.iconst 1, 1) := by decide +kernel
theorem dX11_send_11 : decode cX11_send 11 = .ok (.iadd, 1) := by decide +kernel
theorem dX11_send_12 : decode cX11_send 12 = .ok (.iastore, 1) := by decide +kernel
theorem dX11_send_13 : decode cX11_send 13 = .ok (.iload_n 1, 1) := by decide +kernel
theorem dX11_send_14 : decode cX11_send 14 = .ok (.istore_n 2, 1) := by decide +kernel
theorem dX11_send_15 : decode cX11_send 15 = .ok (.aload_n 0, 1) := by decide +kernel
theorem dX11_send_16 : decode cX11_send 16 = .ok (.getfield 84, 3) := by decide +kernel
theorem dX11_send_19 : decode cX11_send 19 = .ok (.iload_n 2, 1) := by decide +kernel
theorem dX11_send_20 : decode cX11_send 20 = .ok (.iaload, 1) := by decide +kernel
theorem dX11_send_21 : decode cX11_send 21 = .ok (.ifCond .lt 116, 3) := by decide +kernel
theorem dX11_send_24 : decode cX11_send 24 = .ok (.aload_n 0, 1) := by decide +kernel
theorem dX11_send_25 : decode cX11_send 25 = .ok (.getfield 84, 3) := by decide +kernel
theorem dX11_send_28 : decode cX11_send 28 = .ok (.iload_n 2, 1) := by decide +kernel
theorem dX11_send_29 : decode cX11_send 29 = .ok (.iaload, 1) := by decide +kernel
theorem dX11_send_30 : decode cX11_send 30 = .ok (.istore_n 3, 1) := by decide +kernel
theorem dX11_send_31 : decode cX11_send 31 = .ok (.aload_n 0, 1) := by decide +kernel
theorem dX11_send_32 : decode cX11_send 32 = .ok (.getfield 87, 3) := by decide +kernel
theorem dX11_send_35 : decode cX11_send 35 = .ok (.iload_n 2, 1) := by decide +kernel
theorem dX11_send_36 : decode cX11_send 36 = .ok (.iaload, 1) := by decide +kernel
theorem dX11_send_37 : decode cX11_send 37 = .ok (.istore 4, 2) := by decide +kernel
theorem dX11_send_39 : decode cX11_send 39 = .ok (.iload 4, 2) := by decide +kernel
theorem dX11_send_41 : decode cX11_send 41 = .ok (.bipush 100, 2) := by decide +kernel
theorem dX11_send_43 : decode cX11_send 43 = .ok (.if_icmp .ge 25, 3) := by decide +kernel
theorem dX11_send_46 : decode cX11_send 46 = .ok (.aload_n 0, 1) := by decide +kernel
theorem dX11_send_47 : decode cX11_send 47 = .ok (.getfield 69, 3) := by decide +kernel
theorem dX11_send_50 : decode cX11_send 50 = .ok (.bipush 61, 2) := by decide +kernel
theorem dX11_send_52 : decode cX11_send 52 = .ok (.iload 4, 2) := by decide +kernel
theorem dX11_send_54 : decode cX11_send 54 = .ok (.imul, 1) := by decide +kernel
theorem dX11_send_55 : decode cX11_send 55 = .ok (.iload_n 3, 1) := by decide +kernel
theorem dX11_send_56 : decode cX11_send 56 = .ok (.bipush 61, 2) := by decide +kernel
theorem dX11_send_58 : decode cX11_send 58 = .ok (.irem, 1) := by decide +kernel
theorem dX11_send_59 : decode cX11_send 59 = .ok (.iadd, 1) := by decide +kernel
theorem dX11_send_60 : decode cX11_send 60 = .ok (.dup2, 1) := by decide +kernel
theorem dX11_send_61 : decode cX11_send 61 = .ok (.iaload, 1) := by decide +kernel
theorem dX11_send_62 : decode cX11_send 62 = .ok (.iconst 1, 1) := by decide +kernel
theorem dX11_send_63 : decode cX11_send 63 = .ok (.iadd, 1) := by decide +kernel
theorem dX11_send_64 : decode cX11_send 64 = .ok (.iastore, 1) := by decide +kernel
theorem dX11_send_65 : decode cX11_send 65 = .ok (.goto 67, 3) := by decide +kernel
theorem dX11_send_68 : decode cX11_send 68 = .ok (.iload 4, 2) := by decide +kernel
theorem dX11_send_70 : decode cX11_send 70 = .ok (.sipush 200, 3) := by decide +kernel
theorem dX11_send_73 : decode cX11_send 73 = .ok (.if_icmp .ge 28, 3) := by decide +kernel
theorem dX11_send_76 : decode cX11_send 76 = .ok (.aload_n 0, 1) := by decide +kernel
theorem dX11_send_77 : decode cX11_send 77 = .ok (.getfield 69, 3) := by decide +kernel
theorem dX11_send_80 : decode cX11_send 80 = .ok (.bipush 61, 2) := by decide +kernel
theorem dX11_send_82 : decode cX11_send 82 = .ok (.iload 4, 2) := by decide +kernel
theorem dX11_send_84 : decode cX11_send 84 = .ok (.bipush 100, 2) := by decide +kernel
theorem dX11_send_86 : decode cX11_send 86 = .ok (.isub, 1) := by decide +kernel
theorem dX11_send_87 : decode cX11_send 87 = .ok (.imul, 1) := by decide +kernel
theorem dX11_send_88 : decode cX11_send 88 = .ok (.iload_n 2, 1) := by decide +kernel
theorem dX11_send_89 : decode cX11_send 89 = .ok (.bipush 61, 2) := by decide +kernel
theorem dX11_send_91 : decode cX11_send 91 = .ok (.irem, 1) := by decide +kernel
theorem dX11_send_92 : decode cX11_send 92 = .ok (.iadd, 1) := by decide +kernel
theorem dX11_send_93 : decode cX11_send 93 = .ok (.dup2, 1) := by decide +kernel
theorem dX11_send_94 : decode cX11_send 94 = .ok (.iaload, 1) := by decide +kernel
theorem dX11_send_95 : decode cX11_send 95 = .ok (.iconst 1, 1) := by decide +kernel
theorem dX11_send_96 : decode cX11_send 96 = .ok (.isub, 1) := by decide +kernel
theorem dX11_send_97 : decode cX11_send 97 = .ok (.iastore, 1) := by decide +kernel
theorem dX11_send_98 : decode cX11_send 98 = .ok (.goto 34, 3) := by decide +kernel
theorem dX11_send_101 : decode cX11_send 101 = .ok (.iload 4, 2) := by decide +kernel
theorem dX11_send_103 : decode cX11_send 103 = .ok (.sipush 200, 3) := by decide +kernel
theorem dX11_send_106 : decode cX11_send 106 = .ok (.if_icmp .ne 16, 3) := by decide +kernel
theorem dX11_send_109 : decode cX11_send 109 = .ok (.aload_n 0, 1) := by decide +kernel
theorem dX11_send_110 : decode cX11_send 110 = .ok (.getfield 72, 3) := by decide +kernel
theorem dX11_send_113 : decode cX11_send 113 = .ok (.iload_n 3, 1) := by decide +kernel
theorem dX11_send_114 : decode cX11_send 114 = .ok (.dup2, 1) := by decide +kernel
theorem dX11_send_115 : decode cX11_send 115 = .ok (.iaload, 1) := by decide +kernel
theorem dX11_send_116 : decode cX11_send 116 = .ok (.iconst 1, 1) := by decide +kernel
theorem dX11_send_117 : decode cX11_send 117 = .ok (.iadd, 1) := by decide +kernel
theorem dX11_send_118 : decode cX11_send 118 = .ok (.iastore, 1) := by decide +kernel
theorem dX11_send_119 : decode cX11_send 119 = .ok (.goto 13, 3) := by decide +kernel
theorem dX11_send_122 : decode cX11_send 122 = .ok (.aload_n 0, 1) := by decide +kernel
theorem dX11_send_123 : decode cX11_send 123 = .ok (.getfield 72, 3) := by decide +kernel
theorem dX11_send_126 : decode cX11_send 126 = .ok (.iload_n 2, 1) := by decide +kernel
theorem dX11_send_127 : decode cX11_send 127 = .ok (.dup2, 1) := by decide +kernel
theorem dX11_send_128 : decode cX11_send 128 = .ok (.iaload, 1) := by decide +kernel
theorem dX11_send_129 : decode cX11_send 129 = .ok (.iconst 1, 1) := by decide +kernel
theorem dX11_send_130 : decode cX11_send 130 = .ok (.isub, 1) := by decide +kernel
theorem dX11_send_131 : decode cX11_send 131 = .ok (.iastore, 1) := by decide +kernel
theorem dX11_send_132 : decode cX11_send 132 = .ok (.iload_n 3, 1) := by decide +kernel
theorem dX11_send_133 : decode cX11_send 133 = .ok (.istore_n 2, 1) := by decide +kernel
theorem dX11_send_134 : decode cX11_send 134 = .ok (.goto (-119), 3) := by decide +kernel
theorem dX11_send_137 : decode cX11_send 137 = .ok (.aload_n 0, 1) := by decide +kernel
theorem dX11_send_138 : decode cX11_send 138 = .ok (.getfield 78, 3) := by decide +kernel
theorem dX11_send_141 : decode cX11_send 141 = .ok (.iload_n 2, 1) := by decide +kernel
theorem dX11_send_142 : decode cX11_send 142 = .ok (.bipush 61, 2) := by decide +kernel
theorem dX11_send_144 : decode cX11_send 144 = .ok (.idiv, 1) := by decide +kernel
theorem dX11_send_145 : decode cX11_send 145 = .ok (.dup2, 1) := by decide +kernel
theorem dX11_send_146 : decode cX11_send 146 = .ok (.iaload, 1) := by decide +kernel
theorem dX11_send_147 : decode cX11_send 147 = .ok (.iconst 1, 1) := by decide +kernel
theorem dX11_send_148 : decode cX11_send 148 = .ok (.iadd, 1) := by decide +kernel
theorem dX11_send_149 : decode cX11_send 149 = .ok (.iastore, 1) := by decide +kernel
theorem dX11_send_150 : decode cX11_send 150 = .ok (.return_, 1) := by decide +kernel
theorem dX11_findMost_0 : decode cX11_findMost 0 = .ok (.iconst 0, 1) := by decide +kernel
theorem dX11_findMost_1 : decode cX11_findMost 1 = .ok (.istore_n 2, 1) := by decide +kernel
theorem dX11_findMost_2 : decode cX11_findMost 2 = .ok (.iload_n 2, 1) := by decide +kernel
theorem dX11_findMost_3 : decode cX11_findMost 3 = .ok (.sipush 2928, 3) := by decide +kernel
theorem dX11_findMost_6 : decode cX11_findMost 6 = .ok (.if_icmp .ge 16, 3) := by decide +kernel
theorem dX11_findMost_9 : decode cX11_findMost 9 = .ok (.aload_n 0, 1) := by decide +kernel
theorem dX11_findMost_10 : decode cX11_findMost 10 = .ok (.getfield 69, 3) := by decide +kernel
theorem dX11_findMost_13 : decode cX11_findMost 13 = .ok (.iload_n 2, 1) := by decide +kernel
theorem dX11_findMost_14 : decode cX11_findMost 14 = .ok (.iconst 0, 1) := by decide +kernel
theorem dX11_findMost_15 : decode cX11_findMost 15 = .ok (.iastore, 1) := by decide +kernel
theorem dX11_findMost_16 : decode cX11_findMost 16 = .ok (.iinc 2 1, 3) := by decide +kernel
theorem dX11_findMost_19 : decode cX11_findMost 19 = .ok (.goto (-17), 3) := by decide +kernel
theorem dX11_findMost_22 : decode cX11_findMost 22 = .ok (.iconst 0, 1) := by decide +kernel
theorem dX11_findMost_23 : decode cX11_findMost 23 = .ok (.istore_n 2, 1) := by decide +kernel
theorem dX11_findMost_24 : decode cX11_findMost 24 = .ok (.iload_n 2, 1) := by decide +kernel
theorem dX11_findMost_25 : decode cX11_findMost 25 = .ok (.sipush 732, 3) := by decide +kernel
theorem dX11_findMost_28 : decode cX11_findMost 28 = .ok (.if_icmp .ge 16, 3) := by decide +kernel
theorem dX11_findMost_31 : decode cX11_findMost 31 = .ok (.aload_n 0, 1) := by decide +kernel
theorem dX11_findMost_32 : decode cX11_findMost 32 = .ok (.getfield 72, 3) := by decide +kernel
theorem dX11_findMost_35 : decode cX11_findMost 35 = .ok (.iload_n 2, 1) := by decide +kernel
theorem dX11_findMost_36 : decode cX11_findMost 36 = .ok (.iconst 0, 1) := by decide +kernel
theorem dX11_findMost_37 : decode cX11_findMost 37 = .ok (.iastore, 1) := by decide +kernel
theorem dX11_findMost_38 : decode cX11_findMost 38 = .ok (.iinc 2 1, 3) := by decide +kernel
theorem dX11_findMost_41 : decode cX11_findMost 41 = .ok (.goto (-17), 3) := by decide +kernel
theorem dX11_findMost_44 : decode cX11_findMost 44 = .ok (.iconst 0, 1) := by decide +kernel
theorem dX11_findMost_45 : decode cX11_findMost 45 = .ok (.istore_n 2, 1) := by decide +kernel
theorem dX11_findMost_46 : decode cX11_findMost 46 = .ok (.iload_n 2, 1) := by decide +kernel
theorem dX11_findMost_47 : decode cX11_findMost 47 = .ok (.bipush 61, 2) := by decide +kernel
theorem dX11_findMost_49 : decode cX11_findMost 49 = .ok (.if_icmp .ge 16, 3) := by decide +kernel
theorem dX11_findMost_52 : decode cX11_findMost 52 = .ok (.aload_n 0, 1) := by decide +kernel
theorem dX11_findMost_53 : decode cX11_findMost 53 = .ok (.getfield 75, 3) := by decide +kernel
theorem dX11_findMost_56 : decode cX11_findMost 56 = .ok (.iload_n 2, 1) := by decide +kernel
theorem dX11_findMost_57 : decode cX11_findMost 57 = .ok (.iconst 0, 1) := by decide +kernel
theorem dX11_findMost_58 : decode cX11_findMost 58 = .ok (.iastore, 1) := by decide +kernel
theorem dX11_findMost_59 : decode cX11_findMost 59 = .ok (.iinc 2 1, 3) := by decide +kernel
theorem dX11_findMost_62 : decode cX11_findMost 62 = .ok (.goto (-16), 3) := by decide +kernel
theorem dX11_findMost_65 : decode cX11_findMost 65 = .ok (.iconst 0, 1) := by decide +kernel
theorem dX11_findMost_66 : decode cX11_findMost 66 = .ok (.istore_n 2, 1) := by decide +kernel
theorem dX11_findMost_67 : decode cX11_findMost 67 = .ok (.iload_n 2, 1) := by decide +kernel
theorem dX11_findMost_68 : decode cX11_findMost 68 = .ok (.bipush 12, 2) := by decide +kernel
theorem dX11_findMost_70 : decode cX11_findMost 70 = .ok (.if_icmp .ge 16, 3) := by decide +kernel
theorem dX11_findMost_73 : decode cX11_findMost 73 = .ok (.aload_n 0, 1) := by decide +kernel
theorem dX11_findMost_74 : decode cX11_findMost 74 = .ok (.getfield 78, 3) := by decide +kernel
theorem dX11_findMost_77 : decode cX11_findMost 77 = .ok (.iload_n 2, 1) := by decide +kernel
theorem dX11_findMost_78 : decode cX11_findMost 78 = .ok (.iconst 0, 1) := by decide +kernel
theorem dX11_findMost_79 : decode cX11_findMost 79 = .ok (.iastore, 1) := by decide +kernel
theorem dX11_findMost_80 : decode cX11_findMost 80 = .ok (.iinc 2 1, 3) := by decide +kernel
theorem dX11_findMost_83 : decode cX11_findMost 83 = .ok (.goto (-16), 3) := by decide +kernel
theorem dX11_findMost_86 : decode cX11_findMost 86 = .ok (.iconst 0, 1) := by decide +kernel
theorem dX11_findMost_87 : decode cX11_findMost 87 = .ok (.istore_n 2, 1) := by decide +kernel
theorem dX11_findMost_88 : decode cX11_findMost 88 = .ok (.aload_n 0, 1) := by decide +kernel
theorem dX11_findMost_89 : decode cX11_findMost 89 = .ok (.iload_n 1, 1) := by decide +kernel
theorem dX11_findMost_90 : decode cX11_findMost 90 = .ok (.invokevirtual 316, 3) := by decide +kernel
theorem dX11_findMost_93 : decode cX11_findMost 93 = .ok (.istore_n 3, 1) := by decide +kernel
theorem dX11_findMost_94 : decode cX11_findMost 94 = .ok (.iload_n 3, 1) := by decide +kernel
theorem dX11_findMost_95 : decode cX11_findMost 95 = .ok (.ifCond .lt 20, 3) := by decide +kernel
theorem dX11_findMost_98 : decode cX11_findMost 98 = .ok (.aload_n 0, 1) := by decide +kernel
theorem dX11_findMost_99 : decode cX11_findMost 99 = .ok (.iload_n 3, 1) := by decide +kernel
theorem dX11_findMost_100 : decode cX11_findMost 100 = .ok (.invokevirtual 319, 3) := by decide +kernel
theorem dX11_findMost_103 : decode cX11_findMost 103 = .ok (.iinc 2 1, 3) := by decide +kernel
theorem dX11_findMost_106 : decode cX11_findMost 106 = .ok (.aload_n 0, 1) := by decide +kernel
theorem dX11_findMost_107 : decode cX11_findMost 107 = .ok (.iload_n 1, 1) := by decide +kernel
theorem dX11_findMost_108 : decode cX11_findMost 108 = .ok (.invokevirtual 316, 3) := by decide +kernel
theorem dX11_findMost_111 : decode cX11_findMost 111 = .ok (.istore_n 3, 1) := by decide +kernel
theorem dX11_findMost_112 : decode cX11_findMost 112 = .ok (.goto (-18), 3) := by decide +kernel
theorem dX11_findMost_115 : decode cX11_findMost 115 = .ok (.iload_n 2, 1) := by decide +kernel
theorem dX11_findMost_116 : decode cX11_findMost 116 = .ok (.ireturn, 1) := by decide +kernel
theorem dX11_most_0 : decode cX11_most 0 = .ok (.iload_n 1, 1) := by decide +kernel
theorem dX11_most_1 : decode cX11_most 1 = .ok (.i2l, 1) := by decide +kernel
theorem dX11_most_2 : decode cX11_most 2 = .ok (.lconst 0, 1) := by decide +kernel
theorem dX11_most_3 : decode cX11_most 3 = .ok (.ldc2_w 323, 3) := by decide +kernel
theorem dX11_most_6 : decode cX11_most 6 = .ok (.invokestatic 136, 3) := by decide +kernel
theorem dX11_most_9 : decode cX11_most 9 = .ok (.ifCond .ne 7, 3) := by decide +kernel
theorem dX11_most_12 : decode cX11_most 12 = .ok (.sipush (-1002), 3) := by decide +kernel
theorem dX11_most_15 : decode cX11_most 15 = .ok (.ireturn, 1) := by decide +kernel
theorem dX11_most_16 : decode cX11_most 16 = .ok (.aload_n 0, 1) := by decide +kernel
theorem dX11_most_17 : decode cX11_most 17 = .ok (.getfield 133, 3) := by decide +kernel
theorem dX11_most_20 : decode cX11_most 20 = .ok (.ifCond .ne 9, 3) := by decide +kernel
theorem dX11_most_23 : decode cX11_most 23 = .ok (.sipush (-1003), 3) := by decide +kernel
theorem dX11_most_26 : decode cX11_most 26 = .ok (.goto 8, 3) := by decide +kernel
theorem dX11_most_29 : decode cX11_most 29 = .ok (.aload_n 0, 1) := by decide +kernel
theorem dX11_most_30 : decode cX11_most 30 = .ok (.iload_n 1, 1) := by decide +kernel
theorem dX11_most_31 : decode cX11_most 31 = .ok (.invokevirtual 325, 3) := by decide +kernel
theorem dX11_most_34 : decode cX11_most 34 = .ok (.ireturn, 1) := by decide +kernel
theorem dX11_cut_0 : decode cX11_cut 0 = .ok (.iload_n 1, 1) := by decide +kernel
theorem dX11_cut_1 : decode cX11_cut 1 = .ok (.i2l, 1) := by decide +kernel
theorem dX11_cut_2 : decode cX11_cut 2 = .ok (.lconst 0, 1) := by decide +kernel
theorem dX11_cut_3 : decode cX11_cut 3 = .ok (.ldc2_w 323, 3) := by decide +kernel
theorem dX11_cut_6 : decode cX11_cut 6 = .ok (.invokestatic 136, 3) := by decide +kernel
theorem dX11_cut_9 : decode cX11_cut 9 = .ok (.ifCond .ne 7, 3) := by decide +kernel
theorem dX11_cut_12 : decode cX11_cut 12 = .ok (.sipush (-1002), 3) := by decide +kernel
theorem dX11_cut_15 : decode cX11_cut 15 = .ok (.ireturn, 1) := by decide +kernel
theorem dX11_cut_16 : decode cX11_cut 16 = .ok (.aload_n 0, 1) := by decide +kernel
theorem dX11_cut_17 : decode cX11_cut 17 = .ok (.getfield 133, 3) := by decide +kernel
theorem dX11_cut_20 : decode cX11_cut 20 = .ok (.ifCond .ne 7, 3) := by decide +kernel
theorem dX11_cut_23 : decode cX11_cut 23 = .ok (.sipush (-1003), 3) := by decide +kernel
theorem dX11_cut_26 : decode cX11_cut 26 = .ok (.ireturn, 1) := by decide +kernel
theorem dX11_cut_27 : decode cX11_cut 27 = .ok (.aload_n 0, 1) := by decide +kernel
theorem dX11_cut_28 : decode cX11_cut 28 = .ok (.iload_n 1, 1) := by decide +kernel
theorem dX11_cut_29 : decode cX11_cut 29 = .ok (.invokevirtual 325, 3) := by decide +kernel
theorem dX11_cut_32 : decode cX11_cut 32 = .ok (.istore_n 2, 1) := by decide +kernel
theorem dX11_cut_33 : decode cX11_cut 33 = .ok (.iconst 0, 1) := by decide +kernel
theorem dX11_cut_34 : decode cX11_cut 34 = .ok (.istore_n 3, 1) := by decide +kernel
theorem dX11_cut_35 : decode cX11_cut 35 = .ok (.iconst 0, 1) := by decide +kernel
theorem dX11_cut_36 : decode cX11_cut 36 = .ok (.istore 4, 2) := by decide +kernel
theorem dX11_cut_38 : decode cX11_cut 38 = .ok (.iload 4, 2) := by decide +kernel
theorem dX11_cut_40 : decode cX11_cut 40 = .ok (.aload_n 0, 1) := by decide +kernel
theorem dX11_cut_41 : decode cX11_cut 41 = .ok (.getfield 295, 3) := by decide +kernel
theorem dX11_cut_44 : decode cX11_cut 44 = .ok (.if_icmp .ge 28, 3) := by decide +kernel
theorem dX11_cut_47 : decode cX11_cut 47 = .ok (.iload_n 2, 1) := by decide +kernel
theorem dX11_cut_48 : decode cX11_cut 48 = .ok (.ifCond .lt 24, 3) := by decide +kernel
theorem dX11_cut_51 : decode cX11_cut 51 = .ok (.iload_n 3, 1) := by decide +kernel
theorem dX11_cut_52 : decode cX11_cut 52 = .ok (.iconst 1, 1) := by decide +kernel
theorem dX11_cut_53 : decode cX11_cut 53 = .ok (.aload_n 0, 1) := by decide +kernel
theorem dX11_cut_54 : decode cX11_cut 54 = .ok (.getfield 90, 3) := by decide +kernel
theorem dX11_cut_57 : decode cX11_cut 57 = .ok (.iload 4, 2) := by decide +kernel
theorem dX11_cut_59 : decode cX11_cut 59 = .ok (.iaload, 1) := by decide +kernel
theorem dX11_cut_60 : decode cX11_cut 60 = .ok (.bipush 61, 2) := by decide +kernel
theorem dX11_cut_62 : decode cX11_cut 62 = .ok (.idiv, 1) := by decide +kernel
theorem dX11_cut_63 : decode cX11_cut 63 = .ok (.ishl, 1) := by decide +kernel
theorem dX11_cut_64 : decode cX11_cut 64 = .ok (.ior, 1) := by decide +kernel
theorem dX11_cut_65 : decode cX11_cut 65 = .ok (.istore_n 3, 1) := by decide +kernel
theorem dX11_cut_66 : decode cX11_cut 66 = .ok (.iinc 4 1, 3) := by decide +kernel
theorem dX11_cut_69 : decode cX11_cut 69 = .ok (.goto (-31), 3) := by decide +kernel
theorem dX11_cut_72 : decode cX11_cut 72 = .ok (.iload_n 3, 1) := by decide +kernel
theorem dX11_cut_73 : decode cX11_cut 73 = .ok (.ireturn, 1) := by decide +kernel
theorem dX11_lineUp_0 : decode cX11_lineUp 0 = .ok (.iconst 0, 1) := by decide +kernel
theorem dX11_lineUp_1 : decode cX11_lineUp 1 = .ok (.istore_n 2, 1) := by decide +kernel
theorem dX11_lineUp_2 : decode cX11_lineUp 2 = .ok (.iconst 0, 1) := by decide +kernel
theorem dX11_lineUp_3 : decode cX11_lineUp 3 = .ok (.istore_n 3, 1) := by decide +kernel
theorem dX11_lineUp_4 : decode cX11_lineUp 4 = .ok (.iload_n 3, 1) := by decide +kernel
theorem dX11_lineUp_5 : decode cX11_lineUp 5 = .ok (.iconst 2, 1) := by decide +kernel
theorem dX11_lineUp_6 : decode cX11_lineUp 6 = .ok (.if_icmp .ge 79, 3) := by decide +kernel
theorem dX11_lineUp_9 : decode cX11_lineUp 9 = .ok (.iconst 0, 1) := by decide +kernel
theorem dX11_lineUp_10 : decode cX11_lineUp 10 = .ok (.istore 4, 2) := by decide +kernel
theorem dX11_lineUp_12 : decode cX11_lineUp 12 = .ok (.iload 4, 2) := by decide +kernel
theorem dX11_lineUp_14 : decode cX11_lineUp 14 = .ok (.aload_n 0, 1) := by decide +kernel
theorem dX11_lineUp_15 : decode cX11_lineUp 15 = .ok (.getfield 240, 3) := by decide +kernel
theorem dX11_lineUp_18 : decode cX11_lineUp 18 = .ok (.if_icmp .ge 61, 3) := by decide +kernel
theorem dX11_lineUp_21 : decode cX11_lineUp 21 = .ok (.aload_n 0, 1) := by decide +kernel
theorem dX11_lineUp_22 : decode cX11_lineUp 22 = .ok (.getfield 48, 3) := by decide +kernel
theorem dX11_lineUp_25 : decode cX11_lineUp 25 = .ok (.iload 4, 2) := by decide +kernel
theorem dX11_lineUp_27 : decode cX11_lineUp 27 = .ok (.iaload, 1) := by decide +kernel
theorem dX11_lineUp_28 : decode cX11_lineUp 28 = .ok (.iload_n 1, 1) := by decide +kernel
theorem dX11_lineUp_29 : decode cX11_lineUp 29 = .ok (.if_icmp .ne 44, 3) := by decide +kernel
theorem dX11_lineUp_32 : decode cX11_lineUp 32 = .ok (.aload_n 0, 1) := by decide +kernel
theorem dX11_lineUp_33 : decode cX11_lineUp 33 = .ok (.getfield 51, 3) := by decide +kernel
theorem dX11_lineUp_36 : decode cX11_lineUp 36 = .ok (.iload 4, 2) := by decide +kernel
theorem dX11_lineUp_38 : decode cX11_lineUp 38 = .ok (.baload, 1) := by decide +kernel
theorem dX11_lineUp_39 : decode cX11_lineUp 39 = .ok (.ifCond .eq 34, 3) := by decide +kernel
theorem dX11_lineUp_42 : decode cX11_lineUp 42 = .ok (.aload_n 0, 1) := by decide +kernel
theorem dX11_lineUp_43 : decode cX11_lineUp 43 = .ok (.getfield 54, 3) := by decide +kernel
theorem dX11_lineUp_46 : decode cX11_lineUp 46 = .ok (.iload 4, 2) := by decide +kernel
theorem dX11_lineUp_48 : decode cX11_lineUp 48 = .ok (.baload, 1) := by decide +kernel
theorem dX11_lineUp_49 : decode cX11_lineUp 49 = .ok (.iload_n 3, 1) := by decide +kernel
theorem dX11_lineUp_50 : decode cX11_lineUp 50 = .ok (.iconst 1, 1) := by decide +kernel
theorem dX11_lineUp_51 : decode cX11_lineUp 51 = .ok (.if_icmp .ne 7, 3) := by decide +kernel
theorem dX11_lineUp_54 : decode cX11_lineUp 54 = .ok (.iconst 1, 1) := by decide +kernel
theorem dX11_lineUp_55 : decode cX11_lineUp 55 = .ok (.goto 4, 3) := by decide +kernel
theorem dX11_lineUp_58 : decode cX11_lineUp 58 = .ok (.iconst 0, 1) := by decide +kernel
theorem dX11_lineUp_59 : decode cX11_lineUp 59 = .ok (.if_icmp .ne 14, 3) := by decide +kernel
theorem dX11_lineUp_62 : decode cX11_lineUp 62 = .ok (.aload_n 0, 1) := by decide +kernel
theorem dX11_lineUp_63 : decode cX11_lineUp 63 = .ok (.getfield 93, 3) := by decide +kernel
theorem dX11_lineUp_66 : decode cX11_lineUp 66 = .ok (.iload_n 2, 1) := by decide +kernel
theorem dX11_lineUp_67 : decode cX11_lineUp 67 = .ok (.iload 4, 2) := by decide +kernel
theorem dX11_lineUp_69 : decode cX11_lineUp 69 = .ok (.iastore, 1) := by decide +kernel
theorem dX11_lineUp_70 : decode cX11_lineUp 70 = .ok (.iinc 2 1, 3) := by decide +kernel
theorem dX11_lineUp_73 : decode cX11_lineUp 73 = .ok (.iinc 4 1, 3) := by decide +kernel
theorem dX11_lineUp_76 : decode cX11_lineUp 76 = .ok (.goto (-64), 3) := by decide +kernel
theorem dX11_lineUp_79 : decode cX11_lineUp 79 = .ok (.iinc 3 1, 3) := by decide +kernel
theorem dX11_lineUp_82 : decode cX11_lineUp 82 = .ok (.goto (-78), 3) := by decide +kernel
theorem dX11_lineUp_85 : decode cX11_lineUp 85 = .ok (.iload_n 2, 1) := by decide +kernel
theorem dX11_lineUp_86 : decode cX11_lineUp 86 = .ok (.ireturn, 1) := by decide +kernel
theorem dX11_upFrom_0 : decode cX11_upFrom 0 = .ok (.aload_n 0, 1) := by decide +kernel
theorem dX11_upFrom_1 : decode cX11_upFrom 1 = .ok (.iload_n 1, 1) := by decide +kernel
theorem dX11_upFrom_2 : decode cX11_upFrom 2 = .ok (.invokevirtual 328, 3) := by decide +kernel
theorem dX11_upFrom_5 : decode cX11_upFrom 5 = .ok (.istore 4, 2) := by decide +kernel
theorem dX11_upFrom_7 : decode cX11_upFrom 7 = .ok (.iconst 0, 1) := by decide +kernel
theorem dX11_upFrom_8 : decode cX11_upFrom 8 = .ok (.istore 5, 2) := by decide +kernel
theorem dX11_upFrom_10 : decode cX11_upFrom 10 = .ok (.iconst 0, 1) := by decide +kernel
theorem dX11_upFrom_11 : decode cX11_upFrom 11 = .ok (.istore 6, 2) := by decide +kernel
theorem dX11_upFrom_13 : decode cX11_upFrom 13 = .ok (.iconst 0, 1) := by decide +kernel
theorem dX11_upFrom_14 : decode cX11_upFrom 14 = .ok (.istore 7, 2) := by decide +kernel
theorem dX11_upFrom_16 : decode cX11_upFrom 16 = .ok (.iload 7, 2) := by decide +kernel
theorem dX11_upFrom_18 : decode cX11_upFrom 18 = .ok (.aload_n 0, 1) := by decide +kernel
theorem dX11_upFrom_19 : decode cX11_upFrom 19 = .ok (.getfield 243, 3) := by decide +kernel
theorem dX11_upFrom_22 : decode cX11_upFrom 22 = .ok (.if_icmp .ge 144, 3) := by decide +kernel
theorem dX11_upFrom_25 : decode cX11_upFrom 25 = .ok (.iload 7, 2) := by decide +kernel
theorem dX11_upFrom_27 : decode cX11_upFrom 27 = .ok (.iload_n 3, 1) := by decide +kernel
theorem dX11_upFrom_28 : decode cX11_upFrom 28 = .ok (.if_icmp .eq 132, 3) := by decide +kernel
theorem dX11_upFrom_31 : decode cX11_upFrom 31 = .ok (.aload_n 0, 1) := by decide +kernel
theorem dX11_upFrom_32 : decode cX11_upFrom 32 = .ok (.getfield 57, 3) := by decide +kernel
theorem dX11_upFrom_35 : decode cX11_upFrom 35 = .ok (.iload 7, 2) := by decide +kernel
theorem dX11_upFrom_37 : decode cX11_upFrom 37 = .ok (.iaload, 1) := by decide +kernel
theorem dX11_upFrom_38 : decode cX11_upFrom 38 = .ok (.iload_n 1, 1) := by decide +kernel
theorem dX11_upFrom_39 : decode cX11_upFrom 39 = .ok (.if_icmp .ne 121, 3) := by decide +kernel
theorem dX11_upFrom_42 : decode cX11_upFrom 42 = .ok (.iload 5, 2) := by decide +kernel
theorem dX11_upFrom_44 : decode cX11_upFrom 44 = .ok (.iload_n 2, 1) := by decide +kernel
theorem dX11_upFrom_45 : decode cX11_upFrom 45 = .ok (.iadd, 1) := by decide +kernel
theorem dX11_upFrom_46 : decode cX11_upFrom 46 = .ok (.iconst 1, 1) := by decide +kernel
theorem dX11_upFrom_47 : decode cX11_upFrom 47 = .ok (.iadd, 1) := by decide +kernel
theorem dX11_upFrom_48 : decode cX11_upFrom 48 = .ok (.iload 4, 2) := by decide +kernel
theorem dX11_upFrom_50 : decode cX11_upFrom 50 = .ok (.if_icmp .ge 12, 3) := by decide +kernel
theorem dX11_upFrom_53 : decode cX11_upFrom 53 = .ok (.iload 5, 2) := by decide +kernel
theorem dX11_upFrom_55 : decode cX11_upFrom 55 = .ok (.iload_n 2, 1) := by decide +kernel
theorem dX11_upFrom_56 : decode cX11_upFrom 56 = .ok (.iadd, 1) := by decide +kernel
theorem dX11_upFrom_57 : decode cX11_upFrom 57 = .ok (.iconst 1, 1) := by decide +kernel
theorem dX11_upFrom_58 : decode cX11_upFrom 58 = .ok (.iadd, 1) := by decide +kernel
theorem dX11_upFrom_59 : decode cX11_upFrom 59 = .ok (.goto 5, 3) := by decide +kernel
theorem dX11_upFrom_62 : decode cX11_upFrom 62 = .ok (.iload 4, 2) := by decide +kernel
theorem dX11_upFrom_64 : decode cX11_upFrom 64 = .ok (.istore 8, 2) := by decide +kernel
theorem dX11_upFrom_66 : decode cX11_upFrom 66 = .ok (.iconst 0, 1) := by decide +kernel
theorem dX11_upFrom_67 : decode cX11_upFrom 67 = .ok (.istore 9, 2) := by decide +kernel
theorem dX11_upFrom_69 : decode cX11_upFrom 69 = .ok (.iload 5, 2) := by decide +kernel
theorem dX11_upFrom_71 : decode cX11_upFrom 71 = .ok (.istore 10, 2) := by decide +kernel
theorem dX11_upFrom_73 : decode cX11_upFrom 73 = .ok (.iload 10, 2) := by decide +kernel
theorem dX11_upFrom_75 : decode cX11_upFrom 75 = .ok (.iload 8, 2) := by decide +kernel
theorem dX11_upFrom_77 : decode cX11_upFrom 77 = .ok (.if_icmp .ge 36, 3) := by decide +kernel
theorem dX11_upFrom_80 : decode cX11_upFrom 80 = .ok (.iload 9, 2) := by decide +kernel
theorem dX11_upFrom_82 : decode cX11_upFrom 82 = .ok (.ifCond .ne 18, 3) := by decide +kernel
theorem dX11_upFrom_85 : decode cX11_upFrom 85 = .ok (.aload_n 0, 1) := by decide +kernel
theorem dX11_upFrom_86 : decode cX11_upFrom 86 = .ok (.getfield 54, 3) := by decide +kernel
theorem dX11_upFrom_89 : decode cX11_upFrom 89 = .ok (.aload_n 0, 1) := by decide +kernel
theorem dX11_upFrom_90 : decode cX11_upFrom 90 = .ok (.getfield 93, 3) := by decide +kernel
theorem dX11_upFrom_93 : decode cX11_upFrom 93 = .ok (.iload 10, 2) := by decide +kernel
theorem dX11_upFrom_95 : decode cX11_upFrom 95 = .ok (.iaload, 1) := by decide +kernel
theorem dX11_upFrom_96 : decode cX11_upFrom 96 = .ok (.baload, 1) := by decide +kernel
theorem dX11_upFrom_97 : decode cX11_upFrom 97 = .ok (.ifCond .eq 7, 3) := by decide +kernel
theorem dX11_upFrom_100 : decode cX11_upFrom 100 = .ok (.iconst 1, 1) := by decide +kernel
theorem dX11_upFrom_101 : decode cX11_upFrom 101 = .ok (.goto 4, 3) := by decide +kernel
theorem dX11_upFrom_104 : decode cX11_upFrom 104 = .ok (.iconst 0, 1) := by decide +kernel
theorem dX11_upFrom_105 : decode cX11_upFrom 105 = .ok (.istore 9, 2) := by decide +kernel
theorem dX11_upFrom_107 : decode cX11_upFrom 107 = .ok (.iinc 10 1, 3) := by decide +kernel
theorem dX11_upFrom_110 : decode cX11_upFrom 110 = .ok (.goto (-37), 3) := by decide +kernel
theorem dX11_upFrom_113 : decode cX11_upFrom 113 = .ok (.iload 6, 2) := by decide +kernel
theorem dX11_upFrom_115 : decode cX11_upFrom 115 = .ok (.iload 8, 2) := by decide +kernel
theorem dX11_upFrom_117 : decode cX11_upFrom 117 = .ok (.iload 5, 2) := by decide +kernel
theorem dX11_upFrom_119 : decode cX11_upFrom 119 = .ok (.if_icmp .le 33, 3) := by decide +kernel
theorem dX11_upFrom_122 : decode cX11_upFrom 122 = .ok (.aload_n 0, 1) := by decide +kernel
theorem dX11_upFrom_123 : decode cX11_upFrom 123 = .ok (.iload_n 1, 1) := by decide +kernel
theorem dX11_upFrom_124 : decode cX11_upFrom 124 = .ok (.aload_n 0, 1) := by decide +kernel
theorem dX11_upFrom_125 : decode cX11_upFrom 125 = .ok (.getfield 9, 3) := by decide +kernel
theorem dX11_upFrom_128 : decode cX11_upFrom 128 = .ok (.iconst 0, 1) := by decide +kernel
theorem dX11_upFrom_129 : decode cX11_upFrom 129 = .ok (.aload_n 0, 1) := by decide +kernel
theorem dX11_upFrom_130 : decode cX11_upFrom 130 = .ok (.getfield 60, 3) := by decide +kernel
theorem dX11_upFrom_133 : decode cX11_upFrom 133 = .ok (.iload 7, 2) := by decide +kernel
theorem dX11_upFrom_135 : decode cX11_upFrom 135 = .ok (.iaload, 1) := by decide +kernel
theorem dX11_upFrom_136 : decode cX11_upFrom 136 = .ok (.iload 9, 2) := by decide +kernel
theorem dX11_upFrom_138 : decode cX11_upFrom 138 = .ok (.invokevirtual 287, 3) := by decide +kernel
theorem dX11_upFrom_141 : decode cX11_upFrom 141 = .ok (.ifCond .lt 11, 3) := by decide +kernel
theorem dX11_upFrom_144 : decode cX11_upFrom 144 = .ok (.iload 8, 2) := by decide +kernel
theorem dX11_upFrom_146 : decode cX11_upFrom 146 = .ok (.iload 5, 2) := by decide +kernel
theorem dX11_upFrom_148 : decode cX11_upFrom 148 = .ok (.isub, 1) := by decide +kernel
theorem dX11_upFrom_149 : decode cX11_upFrom 149 = .ok (.goto 4, 3) := by decide +kernel
theorem dX11_upFrom_152 : decode cX11_upFrom 152 = .ok (.iconst 0, 1) := by decide +kernel
theorem dX11_upFrom_153 : decode cX11_upFrom 153 = .ok (.iadd, 1) := by decide +kernel
theorem dX11_upFrom_154 : decode cX11_upFrom 154 = .ok (.istore 6, 2) := by decide +kernel
theorem dX11_upFrom_156 : decode cX11_upFrom 156 = .ok (.iload 8, 2) := by decide +kernel
theorem dX11_upFrom_158 : decode cX11_upFrom 158 = .ok (.istore 5, 2) := by decide +kernel
theorem dX11_upFrom_160 : decode cX11_upFrom 160 = .ok (.iinc 7 1, 3) := by decide +kernel
theorem dX11_upFrom_163 : decode cX11_upFrom 163 = .ok (.goto (-147), 3) := by decide +kernel
theorem dX11_upFrom_166 : decode cX11_upFrom 166 = .ok (.iload 5, 2) := by decide +kernel
theorem dX11_upFrom_168 : decode cX11_upFrom 168 = .ok (.istore 7, 2) := by decide +kernel
theorem dX11_upFrom_170 : decode cX11_upFrom 170 = .ok (.iload 7, 2) := by decide +kernel
theorem dX11_upFrom_172 : decode cX11_upFrom 172 = .ok (.iload 4, 2) := by decide +kernel
theorem dX11_upFrom_174 : decode cX11_upFrom 174 = .ok (.if_icmp .ge 45, 3) := by decide +kernel
theorem dX11_upFrom_177 : decode cX11_upFrom 177 = .ok (.iload 6, 2) := by decide +kernel
theorem dX11_upFrom_179 : decode cX11_upFrom 179 = .ok (.aload_n 0, 1) := by decide +kernel
theorem dX11_upFrom_180 : decode cX11_upFrom 180 = .ok (.iload_n 1, 1) := by decide +kernel
theorem dX11_upFrom_181 : decode cX11_upFrom 181 = .ok (.aload_n 0, 1) := by decide +kernel
theorem dX11_upFrom_182 : decode cX11_upFrom 182 = .ok (.getfield 9, 3) := by decide +kernel
theorem dX11_upFrom_185 : decode cX11_upFrom 185 = .ok (.iconst 0, 1) := by decide +kernel
theorem dX11_upFrom_186 : decode cX11_upFrom 186 = .ok (.iconst (-1), 1) := by decide +kernel
theorem dX11_upFrom_187 : decode cX11_upFrom 187 = .ok (.aload_n 0, 1) := by decide +kernel
theorem dX11_upFrom_188 : decode cX11_upFrom 188 = .ok (.getfield 54, 3) := by decide +kernel
theorem dX11_upFrom_191 : decode cX11_upFrom 191 = .ok (.aload_n 0, 1) := by decide +kernel
theorem dX11_upFrom_192 : decode cX11_upFrom 192 = .ok (.getfield 93, 3) := by decide +kernel
theorem dX11_upFrom_195 : decode cX11_upFrom 195 = .ok (.iload 7, 2) := by decide +kernel
theorem dX11_upFrom_197 : decode cX11_upFrom 197 = .ok (.iaload, 1) := by decide +kernel
theorem dX11_upFrom_198 : decode cX11_upFrom 198 = .ok (.baload, 1) := by decide +kernel
theorem dX11_upFrom_199 : decode cX11_upFrom 199 = .ok (.invokevirtual 287, 3) := by decide +kernel
theorem dX11_upFrom_202 : decode cX11_upFrom 202 = .ok (.ifCond .lt 7, 3) := by decide +kernel
theorem dX11_upFrom_205 : decode cX11_upFrom 205 = .ok (.iconst 1, 1) := by decide +kernel
theorem dX11_upFrom_206 : decode cX11_upFrom 206 = .ok (.goto 4, 3) := by decide +kernel
theorem dX11_upFrom_209 : decode cX11_upFrom 209 = .ok (.iconst 0, 1) := by decide +kernel
theorem dX11_upFrom_210 : decode cX11_upFrom 210 = .ok (.iadd, 1) := by decide +kernel
theorem dX11_upFrom_211 : decode cX11_upFrom 211 = .ok (.istore 6, 2) := by decide +kernel
theorem dX11_upFrom_213 : decode cX11_upFrom 213 = .ok (.iinc 7 1, 3) := by decide +kernel
theorem dX11_upFrom_216 : decode cX11_upFrom 216 = .ok (.goto (-46), 3) := by decide +kernel
theorem dX11_upFrom_219 : decode cX11_upFrom 219 = .ok (.iload 6, 2) := by decide +kernel
theorem dX11_upFrom_221 : decode cX11_upFrom 221 = .ok (.ireturn, 1) := by decide +kernel
theorem dX11_upAll_0 : decode cX11_upAll 0 = .ok (.iconst 0, 1) := by decide +kernel
theorem dX11_upAll_1 : decode cX11_upAll 1 = .ok (.istore_n 3, 1) := by decide +kernel
theorem dX11_upAll_2 : decode cX11_upAll 2 = .ok (.iconst 0, 1) := by decide +kernel
theorem dX11_upAll_3 : decode cX11_upAll 3 = .ok (.istore 4, 2) := by decide +kernel
theorem dX11_upAll_5 : decode cX11_upAll 5 = .ok (.iload 4, 2) := by decide +kernel
theorem dX11_upAll_7 : decode cX11_upAll 7 = .ok (.aload_n 0, 1) := by decide +kernel
theorem dX11_upAll_8 : decode cX11_upAll 8 = .ok (.getfield 133, 3) := by decide +kernel
theorem dX11_upAll_11 : decode cX11_upAll 11 = .ok (.if_icmp .ge 20, 3) := by decide +kernel
theorem dX11_upAll_14 : decode cX11_upAll 14 = .ok (.iload_n 3, 1) := by decide +kernel
theorem dX11_upAll_15 : decode cX11_upAll 15 = .ok (.aload_n 0, 1) := by decide +kernel
theorem dX11_upAll_16 : decode cX11_upAll 16 = .ok (.iload 4, 2) := by decide +kernel
theorem dX11_upAll_18 : decode cX11_upAll 18 = .ok (.iload_n 1, 1) := by decide +kernel
theorem dX11_upAll_19 : decode cX11_upAll 19 = .ok (.iload_n 2, 1) := by decide +kernel
theorem dX11_upAll_20 : decode cX11_upAll 20 = .ok (.invokevirtual 331, 3) := by decide +kernel
theorem dX11_upAll_23 : decode cX11_upAll 23 = .ok (.iadd, 1) := by decide +kernel
theorem dX11_upAll_24 : decode cX11_upAll 24 = .ok (.istore_n 3, 1) := by decide +kernel
theorem dX11_upAll_25 : decode cX11_upAll 25 = .ok (.iinc 4 1, 3) := by decide +kernel
theorem dX11_upAll_28 : decode cX11_upAll 28 = .ok (.goto (-23), 3) := by decide +kernel
theorem dX11_upAll_31 : decode cX11_upAll 31 = .ok (.iload_n 3, 1) := by decide +kernel
theorem dX11_upAll_32 : decode cX11_upAll 32 = .ok (.ireturn, 1) := by decide +kernel
theorem dX11_up_0 : decode cX11_up 0 = .ok (.iload_n 2, 1) := by decide +kernel
theorem dX11_up_1 : decode cX11_up 1 = .ok (.iconst (-1), 1) := by decide +kernel
theorem dX11_up_2 : decode cX11_up 2 = .ok (.if_icmp .eq 15, 3) := by decide +kernel
theorem dX11_up_5 : decode cX11_up 5 = .ok (.aload_n 0, 1) := by decide +kernel
theorem dX11_up_6 : decode cX11_up 6 = .ok (.iload_n 2, 1) := by decide +kernel
theorem dX11_up_7 : decode cX11_up 7 = .ok (.invokevirtual 257, 3) := by decide +kernel
theorem dX11_up_10 : decode cX11_up 10 = .ok (.ifCond .ne 7, 3) := by decide +kernel
theorem dX11_up_13 : decode cX11_up 13 = .ok (.sipush (-1001), 3) := by decide +kernel
theorem dX11_up_16 : decode cX11_up 16 = .ok (.ireturn, 1) := by decide +kernel
theorem dX11_up_17 : decode cX11_up 17 = .ok (.iload_n 1, 1) := by decide +kernel
theorem dX11_up_18 : decode cX11_up 18 = .ok (.i2l, 1) := by decide +kernel
theorem dX11_up_19 : decode cX11_up 19 = .ok (.lconst 0, 1) := by decide +kernel
theorem dX11_up_20 : decode cX11_up 20 = .ok (.ldc2_w 335, 3) := by decide +kernel
theorem dX11_up_23 : decode cX11_up 23 = .ok (.invokestatic 136, 3) := by decide +kernel
theorem dX11_up_26 : decode cX11_up 26 = .ok (.ifCond .ne 7, 3) := by decide +kernel
theorem dX11_up_29 : decode cX11_up 29 = .ok (.sipush (-1002), 3) := by decide +kernel
theorem dX11_up_32 : decode cX11_up 32 = .ok (.ireturn, 1) := by decide +kernel
theorem dX11_up_33 : decode cX11_up 33 = .ok (.aload_n 0, 1) := by decide +kernel
theorem dX11_up_34 : decode cX11_up 34 = .ok (.getfield 133, 3) := by decide +kernel
theorem dX11_up_37 : decode cX11_up 37 = .ok (.ifCond .ne 9, 3) := by decide +kernel
theorem dX11_up_40 : decode cX11_up 40 = .ok (.sipush (-1003), 3) := by decide +kernel
theorem dX11_up_43 : decode cX11_up 43 = .ok (.goto 24, 3) := by decide +kernel
theorem dX11_up_46 : decode cX11_up 46 = .ok (.iload_n 2, 1) := by decide +kernel
theorem dX11_up_47 : decode cX11_up 47 = .ok (.iconst (-1), 1) := by decide +kernel
theorem dX11_up_48 : decode cX11_up 48 = .ok (.if_icmp .ne 12, 3) := by decide +kernel
theorem dX11_up_51 : decode cX11_up 51 = .ok (.aload_n 0, 1) := by decide +kernel
theorem dX11_up_52 : decode cX11_up 52 = .ok (.iload_n 1, 1) := by decide +kernel
theorem dX11_up_53 : decode cX11_up 53 = .ok (.iconst (-1), 1) := by decide +kernel
theorem dX11_up_54 : decode cX11_up 54 = .ok (.invokevirtual 337, 3) := by decide +kernel
theorem dX11_up_57 : decode cX11_up 57 = .ok (.goto 10, 3) := by decide +kernel
theorem dX11_up_60 : decode cX11_up 60 = .ok (.aload_n 0, 1) := by decide +kernel
theorem dX11_up_61 : decode cX11_up 61 = .ok (.iload_n 2, 1) := by decide +kernel
theorem dX11_up_62 : decode cX11_up 62 = .ok (.iload_n 1, 1) := by decide +kernel
theorem dX11_up_63 : decode cX11_up 63 = .ok (.iconst (-1), 1) := by decide +kernel
theorem dX11_up_64 : decode cX11_up 64 = .ok (.invokevirtual 331, 3) := by decide +kernel
theorem dX11_up_67 : decode cX11_up 67 = .ok (.ireturn, 1) := by decide +kernel
theorem dX11_lent_0 : decode cX11_lent 0 = .ok (.aload_n 0, 1) := by decide +kernel
theorem dX11_lent_1 : decode cX11_lent 1 = .ok (.iload_n 1, 1) := by decide +kernel
theorem dX11_lent_2 : decode cX11_lent 2 = .ok (.invokevirtual 266, 3) := by decide +kernel
theorem dX11_lent_5 : decode cX11_lent 5 = .ok (.ifCond .eq 11, 3) := by decide +kernel
theorem dX11_lent_8 : decode cX11_lent 8 = .ok (.aload_n 0, 1) := by decide +kernel
theorem dX11_lent_9 : decode cX11_lent 9 = .ok (.iload_n 2, 1) := by decide +kernel
theorem dX11_lent_10 : decode cX11_lent 10 = .ok (.invokevirtual 257, 3) := by decide +kernel
theorem dX11_lent_13 : decode cX11_lent 13 = .ok (.ifCond .ne 7, 3) := by decide +kernel
theorem dX11_lent_16 : decode cX11_lent 16 = .ok (.sipush (-1001), 3) := by decide +kernel
theorem dX11_lent_19 : decode cX11_lent 19 = .ok (.ireturn, 1) := by decide +kernel
theorem dX11_lent_20 : decode cX11_lent 20 = .ok (.aload_n 0, 1) := by decide +kernel
theorem dX11_lent_21 : decode cX11_lent 21 = .ok (.aload_n 0, 1) := by decide +kernel
theorem dX11_lent_22 : decode cX11_lent 22 = .ok (.getfield 57, 3) := by decide +kernel
theorem dX11_lent_25 : decode cX11_lent 25 = .ok (.iload_n 1, 1) := by decide +kernel
theorem dX11_lent_26 : decode cX11_lent 26 = .ok (.iaload, 1) := by decide +kernel
theorem dX11_lent_27 : decode cX11_lent 27 = .ok (.invokevirtual 328, 3) := by decide +kernel
theorem dX11_lent_30 : decode cX11_lent 30 = .ok (.ifCond .ne 5, 3) := by decide +kernel
theorem dX11_lent_33 : decode cX11_lent 33 = .ok (.iconst (-1), 1) := by decide +kernel
theorem dX11_lent_34 : decode cX11_lent 34 = .ok (.ireturn, 1) := by decide +kernel
theorem dX11_lent_35 : decode cX11_lent 35 = .ok (.aload_n 0, 1) := by decide +kernel
theorem dX11_lent_36 : decode cX11_lent 36 = .ok (.getfield 93, 3) := by decide +kernel
theorem dX11_lent_39 : decode cX11_lent 39 = .ok (.iconst 0, 1) := by decide +kernel
theorem dX11_lent_40 : decode cX11_lent 40 = .ok (.iaload, 1) := by decide +kernel
theorem dX11_lent_41 : decode cX11_lent 41 = .ok (.istore_n 3, 1) := by decide +kernel
theorem dX11_lent_42 : decode cX11_lent 42 = .ok (.aload_n 0, 1) := by decide +kernel
theorem dX11_lent_43 : decode cX11_lent 43 = .ok (.getfield 54, 3) := by decide +kernel
theorem dX11_lent_46 : decode cX11_lent 46 = .ok (.iload_n 3, 1) := by decide +kernel
theorem dX11_lent_47 : decode cX11_lent 47 = .ok (.baload, 1) := by decide +kernel
theorem dX11_lent_48 : decode cX11_lent 48 = .ok (.istore 4, 2) := by decide +kernel
theorem dX11_lent_50 : decode cX11_lent 50 = .ok (.aload_n 0, 1) := by decide +kernel
theorem dX11_lent_51 : decode cX11_lent 51 = .ok (.aload_n 0, 1) := by decide +kernel
theorem dX11_lent_52 : decode cX11_lent 52 = .ok (.getfield 57, 3) := by decide +kernel
theorem dX11_lent_55 : decode cX11_lent 55 = .ok (.iload_n 1, 1) := by decide +kernel
theorem dX11_lent_56 : decode cX11_lent 56 = .ok (.iaload, 1) := by decide +kernel
theorem dX11_lent_57 : decode cX11_lent 57 = .ok (.iload_n 2, 1) := by decide +kernel
theorem dX11_lent_58 : decode cX11_lent 58 = .ok (.iconst 0, 1) := by decide +kernel
theorem dX11_lent_59 : decode cX11_lent 59 = .ok (.aload_n 0, 1) := by decide +kernel
theorem dX11_lent_60 : decode cX11_lent 60 = .ok (.getfield 60, 3) := by decide +kernel
theorem dX11_lent_63 : decode cX11_lent 63 = .ok (.iload_n 1, 1) := by decide +kernel
theorem dX11_lent_64 : decode cX11_lent 64 = .ok (.iaload, 1) := by decide +kernel
theorem dX11_lent_65 : decode cX11_lent 65 = .ok (.iload 4, 2) := by decide +kernel
theorem dX11_lent_67 : decode cX11_lent 67 = .ok (.invokevirtual 287, 3) := by decide +kernel
theorem dX11_lent_70 : decode cX11_lent 70 = .ok (.istore 5, 2) := by decide +kernel
theorem dX11_lent_72 : decode cX11_lent 72 = .ok (.iconst 0, 1) := by decide +kernel
theorem dX11_lent_73 : decode cX11_lent 73 = .ok (.istore 6, 2) := by decide +kernel
theorem dX11_lent_75 : decode cX11_lent 75 = .ok (.iload 6, 2) := by decide +kernel
theorem dX11_lent_77 : decode cX11_lent 77 = .ok (.aload_n 0, 1) := by decide +kernel
theorem dX11_lent_78 : decode cX11_lent 78 = .ok (.getfield 240, 3) := by decide +kernel
theorem dX11_lent_81 : decode cX11_lent 81 = .ok (.if_icmp .ge 42, 3) := by decide +kernel
theorem dX11_lent_84 : decode cX11_lent 84 = .ok (.iload 4, 2) := by decide +kernel
theorem dX11_lent_86 : decode cX11_lent 86 = .ok (.ifCond .ne 24, 3) := by decide +kernel
theorem dX11_lent_89 : decode cX11_lent 89 = .ok (.aload_n 0, 1) := by decide +kernel
theorem dX11_lent_90 : decode cX11_lent 90 = .ok (.getfield 48, 3) := by decide +kernel
theorem dX11_lent_93 : decode cX11_lent 93 = .ok (.iload 6, 2) := by decide +kernel
theorem dX11_lent_95 : decode cX11_lent 95 = .ok (.iaload, 1) := by decide +kernel
theorem dX11_lent_96 : decode cX11_lent 96 = .ok (.iload_n 2, 1) := by decide +kernel
theorem dX11_lent_97 : decode cX11_lent 97 = .ok (.if_icmp .ne 17, 3) := by decide +kernel
theorem dX11_lent_100 : decode cX11_lent 100 = .ok (.aload_n 0, 1) := by decide +kernel
theorem dX11_lent_101 : decode cX11_lent 101 = .ok (.getfield 54, 3) := by decide +kernel
theorem dX11_lent_104 : decode cX11_lent 104 = .ok (.iload 6, 2) := by decide +kernel
theorem dX11_lent_106 : decode cX11_lent 106 = .ok (.baload, 1) := by decide +kernel
theorem dX11_lent_107 : decode cX11_lent 107 = .ok (.ifCond .eq 7, 3) := by decide +kernel
theorem dX11_lent_110 : decode cX11_lent 110 = .ok (.iconst 1, 1) := by decide +kernel
theorem dX11_lent_111 : decode cX11_lent 111 = .ok (.goto 4, 3) := by decide +kernel
theorem dX11_lent_114 : decode cX11_lent 114 = .ok (.iconst 0, 1) := by decide +kernel
theorem dX11_lent_115 : decode cX11_lent 115 = .ok (.istore 4, 2) := by decide +kernel
theorem dX11_lent_117 : decode cX11_lent 117 = .ok (.iinc 6 1, 3) := by decide +kernel
theorem dX11_lent_120 : decode cX11_lent 120 = .ok (.goto (-45), 3) := by decide +kernel
theorem dX11_lent_123 : decode cX11_lent 123 = .ok (.iload 5, 2) := by decide +kernel
theorem dX11_lent_125 : decode cX11_lent 125 = .ok (.ifCond .ge 7, 3) := by decide +kernel
theorem dX11_lent_128 : decode cX11_lent 128 = .ok (.iconst (-1), 1) := by decide +kernel
theorem dX11_lent_129 : decode cX11_lent 129 = .ok (.goto 22, 3) := by decide +kernel
theorem dX11_lent_132 : decode cX11_lent 132 = .ok (.aload_n 0, 1) := by decide +kernel
theorem dX11_lent_133 : decode cX11_lent 133 = .ok (.iload_n 2, 1) := by decide +kernel
theorem dX11_lent_134 : decode cX11_lent 134 = .ok (.aload_n 0, 1) := by decide +kernel
theorem dX11_lent_135 : decode cX11_lent 135 = .ok (.getfield 9, 3) := by decide +kernel
theorem dX11_lent_138 : decode cX11_lent 138 = .ok (.iload 5, 2) := by decide +kernel
theorem dX11_lent_140 : decode cX11_lent 140 = .ok (.aload_n 0, 1) := by decide +kernel
theorem dX11_lent_141 : decode cX11_lent 141 = .ok (.getfield 60, 3) := by decide +kernel
theorem dX11_lent_144 : decode cX11_lent 144 = .ok (.iload_n 1, 1) := by decide +kernel
theorem dX11_lent_145 : decode cX11_lent 145 = .ok (.iaload, 1) := by decide +kernel
theorem dX11_lent_146 : decode cX11_lent 146 = .ok (.iload 4, 2) := by decide +kernel
theorem dX11_lent_148 : decode cX11_lent 148 = .ok (.invokevirtual 287, 3) := by decide +kernel
theorem dX11_lent_151 : decode cX11_lent 151 = .ok (.ireturn, 1) := by decide +kernel
theorem dX11_mark_0 : decode cX11_mark 0 = .ok (.aload_n 0, 1) := by decide +kernel
theorem dX11_mark_1 : decode cX11_mark 1 = .ok (.iload_n 1, 1) := by decide +kernel
theorem dX11_mark_2 : decode cX11_mark 2 = .ok (.invokevirtual 266, 3) := by decide +kernel
theorem dX11_mark_5 : decode cX11_mark 5 = .ok (.ifCond .eq 11, 3) := by decide +kernel
theorem dX11_mark_8 : decode cX11_mark 8 = .ok (.aload_n 0, 1) := by decide +kernel
theorem dX11_mark_9 : decode cX11_mark 9 = .ok (.iload_n 2, 1) := by decide +kernel
theorem dX11_mark_10 : decode cX11_mark 10 = .ok (.invokevirtual 257, 3) := by decide +kernel
theorem dX11_mark_13 : decode cX11_mark 13 = .ok (.ifCond .ne 7, 3) := by decide +kernel
theorem dX11_mark_16 : decode cX11_mark 16 = .ok (.sipush (-1001), 3) := by decide +kernel
theorem dX11_mark_19 : decode cX11_mark 19 = .ok (.ireturn, 1) := by decide +kernel
theorem dX11_mark_20 : decode cX11_mark 20 = .ok (.iload_n 3, 1) := by decide +kernel
theorem dX11_mark_21 : decode cX11_mark 21 = .ok (.i2l, 1) := by decide +kernel
theorem dX11_mark_22 : decode cX11_mark 22 = .ok (.lconst 0, 1) := by decide +kernel
theorem dX11_mark_23 : decode cX11_mark 23 = .ok (.ldc2_w 335, 3) := by decide +kernel
theorem dX11_mark_26 : decode cX11_mark 26 = .ok (.invokestatic 136, 3) := by decide +kernel
theorem dX11_mark_29 : decode cX11_mark 29 = .ok (.ifCond .ne 7, 3) := by decide +kernel
theorem dX11_mark_32 : decode cX11_mark 32 = .ok (.sipush (-1002), 3) := by decide +kernel
theorem dX11_mark_35 : decode cX11_mark 35 = .ok (.ireturn, 1) := by decide +kernel
theorem dX11_mark_36 : decode cX11_mark 36 = .ok (.aload_n 0, 1) := by decide +kernel
theorem dX11_mark_37 : decode cX11_mark 37 = .ok (.iload_n 3, 1) := by decide +kernel
theorem dX11_mark_38 : decode cX11_mark 38 = .ok (.iconst (-1), 1) := by decide +kernel
theorem dX11_mark_39 : decode cX11_mark 39 = .ok (.invokevirtual 337, 3) := by decide +kernel
theorem dX11_mark_42 : decode cX11_mark 42 = .ok (.istore 4, 2) := by decide +kernel
theorem dX11_mark_44 : decode cX11_mark 44 = .ok (.aload_n 0, 1) := by decide +kernel
theorem dX11_mark_45 : decode cX11_mark 45 = .ok (.iload_n 2, 1) := by decide +kernel
theorem dX11_mark_46 : decode cX11_mark 46 = .ok (.putfield 63, 3) := by decide +kernel
theorem dX11_mark_49 : decode cX11_mark 49 = .ok (.aload_n 0, 1) := by decide +kernel
theorem dX11_mark_50 : decode cX11_mark 50 = .ok (.aload_n 0, 1) := by decide +kernel
theorem dX11_mark_51 : decode cX11_mark 51 = .ok (.getfield 60, 3) := by decide +kernel
theorem dX11_mark_54 : decode cX11_mark 54 = .ok (.iload_n 1, 1) := by decide +kernel
theorem dX11_mark_55 : decode cX11_mark 55 = .ok (.iaload, 1) := by decide +kernel
theorem dX11_mark_56 : decode cX11_mark 56 = .ok (.putfield 269, 3) := by decide +kernel
theorem dX11_mark_59 : decode cX11_mark 59 = .ok (.aload_n 0, 1) := by decide +kernel
theorem dX11_mark_60 : decode cX11_mark 60 = .ok (.iload_n 3, 1) := by decide +kernel
theorem dX11_mark_61 : decode cX11_mark 61 = .ok (.iload_n 1, 1) := by decide +kernel
theorem dX11_mark_62 : decode cX11_mark 62 = .ok (.invokevirtual 337, 3) := by decide +kernel
theorem dX11_mark_65 : decode cX11_mark 65 = .ok (.istore 5, 2) := by decide +kernel
theorem dX11_mark_67 : decode cX11_mark 67 = .ok (.aload_n 0, 1) := by decide +kernel
theorem dX11_mark_68 : decode cX11_mark 68 = .ok (.iconst (-1), 1) := by decide +kernel
theorem dX11_mark_69 : decode cX11_mark 69 = .ok (.putfield 63, 3) := by decide +kernel
theorem dX11_mark_72 : decode cX11_mark 72 = .ok (.bipush 100, 2) := by decide +kernel
theorem dX11_mark_74 : decode cX11_mark 74 = .ok (.iload 5, 2) := by decide +kernel
theorem dX11_mark_76 : decode cX11_mark 76 = .ok (.iadd, 1) := by decide +kernel
theorem dX11_mark_77 : decode cX11_mark 77 = .ok (.iload 4, 2) := by decide +kernel
theorem dX11_mark_79 : decode cX11_mark 79 = .ok (.isub, 1) := by decide +kernel
theorem dX11_mark_80 : decode cX11_mark 80 = .ok (.ireturn, 1) := by decide +kernel
theorem dX11_unknowing_0 : decode cX11_unknowing 0 = .ok (.iconst 0, 1) := by decide +kernel
theorem dX11_unknowing_1 : decode cX11_unknowing 1 = .ok (.istore_n 1, 1) := by decide +kernel
theorem dX11_unknowing_2 : decode cX11_unknowing 2 = .ok (.iconst 0, 1) := by decide +kernel
theorem dX11_unknowing_3 : decode cX11_unknowing 3 = .ok (.istore_n 2, 1) := by decide +kernel
theorem dX11_unknowing_4 : decode cX11_unknowing 4 = .ok (.iload_n 2, 1) := by decide +kernel
theorem dX11_unknowing_5 : decode cX11_unknowing 5 = .ok (.aload_n 0, 1) := by decide +kernel
theorem dX11_unknowing_6 : decode cX11_unknowing 6 = .ok (.getfield 240, 3) := by decide +kernel
theorem dX11_unknowing_9 : decode cX11_unknowing 9 = .ok (.if_icmp .ge 33, 3) := by decide +kernel
theorem dX11_unknowing_12 : decode cX11_unknowing 12 = .ok (.iload_n 1, 1) := by decide +kernel
theorem dX11_unknowing_13 : decode cX11_unknowing 13 = .ok (.aload_n 0, 1) := by decide +kernel
theorem dX11_unknowing_14 : decode cX11_unknowing 14 = .ok (.getfield 51, 3) := by decide +kernel
theorem dX11_unknowing_17 : decode cX11_unknowing 17 = .ok (.iload_n 2, 1) := by decide +kernel
theorem dX11_unknowing_18 : decode cX11_unknowing 18 = .ok (.baload, 1) := by decide +kernel
theorem dX11_unknowing_19 : decode cX11_unknowing 19 = .ok (.ifCond .eq 7, 3) := by decide +kernel
theorem dX11_unknowing_22 : decode cX11_unknowing 22 = .ok (.iconst 0, 1) := by decide +kernel
theorem dX11_unknowing_23 : decode cX11_unknowing 23 = .ok (.goto 11, 3) := by decide +kernel
theorem dX11_unknowing_26 : decode cX11_unknowing 26 = .ok (.iconst 1, 1) := by decide +kernel
theorem dX11_unknowing_27 : decode cX11_unknowing 27 = .ok (.aload_n 0, 1) := by decide +kernel
theorem dX11_unknowing_28 : decode cX11_unknowing 28 = .ok (.getfield 48, 3) := by decide +kernel
theorem dX11_unknowing_31 : decode cX11_unknowing 31 = .ok (.iload_n 2, 1) := by decide +kernel
theorem dX11_unknowing_32 : decode cX11_unknowing 32 = .ok (.iaload, 1) := by decide +kernel
theorem dX11_unknowing_33 : decode cX11_unknowing 33 = .ok (.ishl, 1) := by decide +kernel
theorem dX11_unknowing_34 : decode cX11_unknowing 34 = .ok (.ior, 1) := by decide +kernel
theorem dX11_unknowing_35 : decode cX11_unknowing 35 = .ok (.istore_n 1, 1) := by decide +kernel
theorem dX11_unknowing_36 : decode cX11_unknowing 36 = .ok (.iinc 2 1, 3) := by decide +kernel
theorem dX11_unknowing_39 : decode cX11_unknowing 39 = .ok (.goto (-35), 3) := by decide +kernel
theorem dX11_unknowing_42 : decode cX11_unknowing 42 = .ok (.iload_n 1, 1) := by decide +kernel
theorem dX11_unknowing_43 : decode cX11_unknowing 43 = .ok (.ireturn, 1) := by decide +kernel
theorem dX11_bits_0 : decode cX11_bits 0 = .ok (.iconst 0, 1) := by decide +kernel
theorem dX11_bits_1 : decode cX11_bits 1 = .ok (.istore_n 1, 1) := by decide +kernel
theorem dX11_bits_2 : decode cX11_bits 2 = .ok (.iconst 0, 1) := by decide +kernel
theorem dX11_bits_3 : decode cX11_bits 3 = .ok (.istore_n 2, 1) := by decide +kernel
theorem dX11_bits_4 : decode cX11_bits 4 = .ok (.iload_n 2, 1) := by decide +kernel
theorem dX11_bits_5 : decode cX11_bits 5 = .ok (.bipush 12, 2) := by decide +kernel
theorem dX11_bits_7 : decode cX11_bits 7 = .ok (.if_icmp .ge 17, 3) := by decide +kernel
theorem dX11_bits_10 : decode cX11_bits 10 = .ok (.iload_n 1, 1) := by decide +kernel
theorem dX11_bits_11 : decode cX11_bits 11 = .ok (.iload_n 0, 1) := by decide +kernel
theorem dX11_bits_12 : decode cX11_bits 12 = .ok (.iload_n 2, 1) := by decide +kernel
theorem dX11_bits_13 : decode cX11_bits 13 = .ok (.ishr, 1) := by decide +kernel
theorem dX11_bits_14 : decode cX11_bits 14 = .ok (.iconst 1, 1) := by decide +kernel
theorem dX11_bits_15 : decode cX11_bits 15 = .ok (.iand, 1) := by decide +kernel
theorem dX11_bits_16 : decode cX11_bits 16 = .ok (.iadd, 1) := by decide +kernel
theorem dX11_bits_17 : decode cX11_bits 17 = .ok (.istore_n 1, 1) := by decide +kernel
theorem dX11_bits_18 : decode cX11_bits 18 = .ok (.iinc 2 1, 3) := by decide +kernel
theorem dX11_bits_21 : decode cX11_bits 21 = .ok (.goto (-17), 3) := by decide +kernel
theorem dX11_bits_24 : decode cX11_bits 24 = .ok (.iload_n 1, 1) := by decide +kernel
theorem dX11_bits_25 : decode cX11_bits 25 = .ok (.ireturn, 1) := by decide +kernel
theorem dX11_findDark_0 : decode cX11_findDark 0 = .ok (.iconst 0, 1) := by decide +kernel
theorem dX11_findDark_1 : decode cX11_findDark 1 = .ok (.istore_n 1, 1) := by decide +kernel
theorem dX11_findDark_2 : decode cX11_findDark 2 = .ok (.iload_n 1, 1) := by decide +kernel
theorem dX11_findDark_3 : decode cX11_findDark 3 = .ok (.aload_n 0, 1) := by decide +kernel
theorem dX11_findDark_4 : decode cX11_findDark 4 = .ok (.getfield 133, 3) := by decide +kernel
theorem dX11_findDark_7 : decode cX11_findDark 7 = .ok (.if_icmp .ge 41, 3) := by decide +kernel
theorem dX11_findDark_10 : decode cX11_findDark 10 = .ok (.aload_n 0, 1) := by decide +kernel
theorem dX11_findDark_11 : decode cX11_findDark 11 = .ok (.getfield 96, 3) := by decide +kernel
theorem dX11_findDark_14 : decode cX11_findDark 14 = .ok (.iconst 2, 1) := by decide +kernel
theorem dX11_findDark_15 : decode cX11_findDark 15 = .ok (.iload_n 1, 1) := by decide +kernel
theorem dX11_findDark_16 : decode cX11_findDark 16 = .ok (.imul, 1) := by decide +kernel
theorem dX11_findDark_17 : decode cX11_findDark 17 = .ok (.aload_n 0, 1) := by decide +kernel
theorem dX11_findDark_18 : decode cX11_findDark 18 = .ok (.iload_n 1, 1) := by decide +kernel
theorem dX11_findDark_19 : decode cX11_findDark 19 = .ok (.iconst (-1), 1) := by decide +kernel
theorem dX11_findDark_20 : decode cX11_findDark 20 = .ok (.iconst 0, 1) := by decide +kernel
theorem dX11_findDark_21 : decode cX11_findDark 21 = .ok (.invokevirtual 291, 3) := by decide +kernel
theorem dX11_findDark_24 : decode cX11_findDark 24 = .ok (.iastore, 1) := by decide +kernel
theorem dX11_findDark_25 : decode cX11_findDark 25 = .ok (.aload_n 0, 1) := by decide +kernel
theorem dX11_findDark_26 : decode cX11_findDark 26 = .ok (.getfield 96, 3) := by decide +kernel
theorem dX11_findDark_29 : decode cX11_findDark 29 = .ok (.iconst 2, 1) := by decide +kernel
theorem dX11_findDark_30 : decode cX11_findDark 30 = .ok (.iload_n 1, 1) := by decide +kernel
theorem dX11_findDark_31 : decode cX11_findDark 31 = .ok (.imul, 1) := by decide +kernel
theorem dX11_findDark_32 : decode cX11_findDark 32 = .ok (.iconst 1, 1) := by decide +kernel
theorem dX11_findDark_33 : decode cX11_findDark 33 = .ok (.iadd, 1) := by decide +kernel
theorem dX11_findDark_34 : decode cX11_findDark 34 = .ok (.aload_n 0, 1) := by decide +kernel
theorem dX11_findDark_35 : decode cX11_findDark 35 = .ok (.iload_n 1, 1) := by decide +kernel
theorem dX11_findDark_36 : decode cX11_findDark 36 = .ok (.iconst (-1), 1) := by decide +kernel
theorem dX11_findDark_37 : decode cX11_findDark 37 = .ok (.iconst 1, 1) := by decide +kernel
theorem dX11_findDark_38 : decode cX11_findDark 38 = .ok (.invokevirtual 291, 3) := by decide +kernel
theorem dX11_findDark_41 : decode cX11_findDark 41 = .ok (.iastore, 1) := by decide +kernel
theorem dX11_findDark_42 : decode cX11_findDark 42 = .ok (.iinc 1 1, 3) := by decide +kernel
theorem dX11_findDark_45 : decode cX11_findDark 45 = .ok (.goto (-43), 3) := by decide +kernel
theorem dX11_findDark_48 : decode cX11_findDark 48 = .ok (.return_, 1) := by decide +kernel
theorem dX11_toldAt_0 : decode cX11_toldAt 0 = .ok (.iconst 0, 1) := by decide +kernel
theorem dX11_toldAt_1 : decode cX11_toldAt 1 = .ok (.istore_n 3, 1) := by decide +kernel
theorem dX11_toldAt_2 : decode cX11_toldAt 2 = .ok (.iconst 0, 1) := by decide +kernel
theorem dX11_toldAt_3 : decode cX11_toldAt 3 = .ok (.istore 4, 2) := by decide +kernel
theorem dX11_toldAt_5 : decode cX11_toldAt 5 = .ok (.iload 4, 2) := by decide +kernel
theorem dX11_toldAt_7 : decode cX11_toldAt 7 = .ok (.aload_n 0, 1) := by decide +kernel
theorem dX11_toldAt_8 : decode cX11_toldAt 8 = .ok (.getfield 240, 3) := by decide +kernel
theorem dX11_toldAt_11 : decode cX11_toldAt 11 = .ok (.if_icmp .ge 78, 3) := by decide +kernel
theorem dX11_toldAt_14 : decode cX11_toldAt 14 = .ok (.aload_n 0, 1) := by decide +kernel
theorem dX11_toldAt_15 : decode cX11_toldAt 15 = .ok (.getfield 48, 3) := by decide +kernel
theorem dX11_toldAt_18 : decode cX11_toldAt 18 = .ok (.iload 4, 2) := by decide +kernel
theorem dX11_toldAt_20 : decode cX11_toldAt 20 = .ok (.iaload, 1) := by decide +kernel
theorem dX11_toldAt_21 : decode cX11_toldAt 21 = .ok (.iload_n 1, 1) := by decide +kernel
theorem dX11_toldAt_22 : decode cX11_toldAt 22 = .ok (.if_icmp .ne 17, 3) := by decide +kernel
theorem dX11_toldAt_25 : decode cX11_toldAt 25 = .ok (.aload_n 0, 1) := by decide +kernel
theorem dX11_toldAt_26 : decode cX11_toldAt 26 = .ok (.getfield 51, 3) := by decide +kernel
theorem dX11_toldAt_29 : decode cX11_toldAt 29 = .ok (.iload 4, 2) := by decide +kernel
theorem dX11_toldAt_31 : decode cX11_toldAt 31 = .ok (.baload, 1) := by decide +kernel
theorem dX11_toldAt_32 : decode cX11_toldAt 32 = .ok (.ifCond .ne 7, 3) := by decide +kernel
theorem dX11_toldAt_35 : decode cX11_toldAt 35 = .ok (.iconst 1, 1) := by decide +kernel
theorem dX11_toldAt_36 : decode cX11_toldAt 36 = .ok (.goto 4, 3) := by decide +kernel
theorem dX11_toldAt_39 : decode cX11_toldAt 39 = .ok (.iconst 0, 1) := by decide +kernel
theorem dX11_toldAt_40 : decode cX11_toldAt 40 = .ok (.istore 5, 2) := by decide +kernel
theorem dX11_toldAt_42 : decode cX11_toldAt 42 = .ok (.iload_n 3, 1) := by decide +kernel
theorem dX11_toldAt_43 : decode cX11_toldAt 43 = .ok (.iload 5, 2) := by decide +kernel
theorem dX11_toldAt_45 : decode cX11_toldAt 45 = .ok (.ifCond .eq 35, 3) := by decide +kernel
theorem dX11_toldAt_48 : decode cX11_toldAt 48 = .ok (.aload_n 0, 1) := by decide +kernel
theorem dX11_toldAt_49 : decode cX11_toldAt 49 = .ok (.getfield 96, 3) := by decide +kernel
theorem dX11_toldAt_52 : decode cX11_toldAt 52 = .ok (.iconst 2, 1) := by decide +kernel
theorem dX11_toldAt_53 : decode cX11_toldAt 53 = .ok (.iload_n 1, 1) := by decide +kernel
theorem dX11_toldAt_54 : decode cX11_toldAt 54 = .ok (.imul, 1) := by decide +kernel
theorem dX11_toldAt_55 : decode cX11_toldAt 55 = .ok (.aload_n 0, 1) := by decide +kernel
theorem dX11_toldAt_56 : decode cX11_toldAt 56 = .ok (.getfield 54, 3) := by decide +kernel
theorem dX11_toldAt_59 : decode cX11_toldAt 59 = .ok (.iload 4, 2) := by decide +kernel
theorem dX11_toldAt_61 : decode cX11_toldAt 61 = .ok (.baload, 1) := by decide +kernel
theorem dX11_toldAt_62 : decode cX11_toldAt 62 = .ok (.ifCond .eq 7, 3) := by decide +kernel
theorem dX11_toldAt_65 : decode cX11_toldAt 65 = .ok (.iconst 1, 1) := by decide +kernel
theorem dX11_toldAt_66 : decode cX11_toldAt 66 = .ok (.goto 4, 3) := by decide +kernel
theorem dX11_toldAt_69 : decode cX11_toldAt 69 = .ok (.iconst 0, 1) := by decide +kernel
theorem dX11_toldAt_70 : decode cX11_toldAt 70 = .ok (.iadd, 1) := by decide +kernel
theorem dX11_toldAt_71 : decode cX11_toldAt 71 = .ok (.iaload, 1) := by decide +kernel
theorem dX11_toldAt_72 : decode cX11_toldAt 72 = .ok (.iload_n 2, 1) := by decide +kernel
theorem dX11_toldAt_73 : decode cX11_toldAt 73 = .ok (.if_icmp .lt 7, 3) := by decide +kernel
theorem dX11_toldAt_76 : decode cX11_toldAt 76 = .ok (.iconst 1, 1) := by decide +kernel
theorem dX11_toldAt_77 : decode cX11_toldAt 77 = .ok (.goto 4, 3) := by decide +kernel
theorem dX11_toldAt_80 : decode cX11_toldAt 80 = .ok (.iconst 0, 1) := by decide +kernel
theorem dX11_toldAt_81 : decode cX11_toldAt 81 = .ok (.iadd, 1) := by decide +kernel
theorem dX11_toldAt_82 : decode cX11_toldAt 82 = .ok (.istore_n 3, 1) := by decide +kernel
theorem dX11_toldAt_83 : decode cX11_toldAt 83 = .ok (.iinc 4 1, 3) := by decide +kernel
theorem dX11_toldAt_86 : decode cX11_toldAt 86 = .ok (.goto (-81), 3) := by decide +kernel
theorem dX11_toldAt_89 : decode cX11_toldAt 89 = .ok (.iload_n 3, 1) := by decide +kernel
theorem dX11_toldAt_90 : decode cX11_toldAt 90 = .ok (.ireturn, 1) := by decide +kernel
theorem dX11_nextOrder_0 : decode cX11_nextOrder 0 = .ok (.aload_n 0, 1) := by decide +kernel
theorem dX11_nextOrder_1 : decode cX11_nextOrder 1 = .ok (.getfield 340, 3) := by decide +kernel
theorem dX11_nextOrder_4 : decode cX11_nextOrder 4 = .ok (.iconst 2, 1) := by decide +kernel
theorem dX11_nextOrder_5 : decode cX11_nextOrder 5 = .ok (.isub, 1) := by decide +kernel
theorem dX11_nextOrder_6 : decode cX11_nextOrder 6 = .ok (.istore_n 1, 1) := by decide +kernel
theorem dX11_nextOrder_7 : decode cX11_nextOrder 7 = .ok (.iload_n 1, 1) := by decide +kernel
theorem dX11_nextOrder_8 : decode cX11_nextOrder 8 = .ok (.ifCond .lt 26, 3) := by decide +kernel
theorem dX11_nextOrder_11 : decode cX11_nextOrder 11 = .ok (.aload_n 0, 1) := by decide +kernel
theorem dX11_nextOrder_12 : decode cX11_nextOrder 12 = .ok (.getfield 99, 3) := by decide +kernel
theorem dX11_nextOrder_15 : decode cX11_nextOrder 15 = .ok (.iload_n 1, 1) := by decide +kernel
theorem dX11_nextOrder_16 : decode cX11_nextOrder 16 = .ok (.iaload, 1) := by decide +kernel
theorem dX11_nextOrder_17 : decode cX11_nextOrder 17 = .ok (.aload_n 0, 1) := by decide +kernel
theorem dX11_nextOrder_18 : decode cX11_nextOrder 18 = .ok (.getfield 99, 3) := by decide +kernel
theorem dX11_nextOrder_21 : decode cX11_nextOrder 21 = .ok (.iload_n 1, 1) := by decide +kernel
theorem dX11_nextOrder_22 : decode cX11_nextOrder 22 = .ok (.iconst 1, 1) := by decide +kernel
theorem dX11_nextOrder_23 : decode cX11_nextOrder 23 = .ok (.iadd, 1) := by decide +kernel
theorem dX11_nextOrder_24 : decode cX11_nextOrder 24 = .ok (.iaload, 1) := by decide +kernel
theorem dX11_nextOrder_25 : decode cX11_nextOrder 25 = .ok (.if_icmp .le 9, 3) := by decide +kernel
theorem dX11_nextOrder_28 : decode cX11_nextOrder 28 = .ok (.iinc 1 (-1), 3) := by decide +kernel
theorem dX11_nextOrder_31 : decode cX11_nextOrder 31 = .ok (.goto (-24), 3) := by decide +kernel
theorem dX11_nextOrder_34 : decode cX11_nextOrder 34 = .ok (.iload_n 1, 1) := by decide +kernel
theorem dX11_nextOrder_35 : decode cX11_nextOrder 35 = .ok (.ifCond .ge 5, 3) := by decide +kernel
theorem dX11_nextOrder_38 : decode cX11_nextOrder 38 = .ok (.iconst 0, 1) := by decide +kernel
theorem dX11_nextOrder_39 : decode cX11_nextOrder 39 = .ok (.ireturn, 1) := by decide +kernel
theorem dX11_nextOrder_40 : decode cX11_nextOrder 40 = .ok (.aload_n 0, 1) := by decide +kernel
theorem dX11_nextOrder_41 : decode cX11_nextOrder 41 = .ok (.getfield 340, 3) := by decide +kernel
theorem dX11_nextOrder_44 : decode cX11_nextOrder 44 = .ok (.iconst 1, 1) := by decide +kernel
theorem dX11_nextOrder_45 : decode cX11_nextOrder 45 = .ok (.isub, 1) := by decide +kernel
theorem dX11_nextOrder_46 : decode cX11_nextOrder 46 = .ok (.istore_n 2, 1) := by decide +kernel
theorem dX11_nextOrder_47 : decode cX11_nextOrder 47 = .ok (.aload_n 0, 1) := by decide +kernel
theorem dX11_nextOrder_48 : decode cX11_nextOrder 48 = .ok (.getfield 99, 3) := by decide +kernel
theorem dX11_nextOrder_51 : decode cX11_nextOrder 51 = .ok (.iload_n 2, 1) := by decide +kernel
theorem dX11_nextOrder_52 : decode cX11_nextOrder 52 = .ok (.iaload, 1) := by decide +kernel
theorem dX11_nextOrder_53 : decode cX11_nextOrder 53 = .ok (.aload_n 0, 1) := by decide +kernel
theorem dX11_nextOrder_54 : decode cX11_nextOrder 54 = .ok (.getfield 99, 3) := by decide +kernel
theorem dX11_nextOrder_57 : decode cX11_nextOrder 57 = .ok (.iload_n 1, 1) := by decide +kernel
theorem dX11_nextOrder_58 : decode cX11_nextOrder 58 = .ok (.iaload, 1) := by decide +kernel
theorem dX11_nextOrder_59 : decode cX11_nextOrder 59 = .ok (.if_icmp .ge 9, 3) := by decide +kernel
theorem dX11_nextOrder_62 : decode cX11_nextOrder 62 = .ok (.iinc 2 (-1), 3) := by decide +kernel
theorem dX11_nextOrder_65 : decode cX11_nextOrder 65 = .ok (.goto (-18), 3) := by decide +kernel
theorem dX11_nextOrder_68 : decode cX11_nextOrder 68 = .ok (.aload_n 0, 1) := by decide +kernel
theorem dX11_nextOrder_69 : decode cX11_nextOrder 69 = .ok (.getfield 99, 3) := by decide +kernel
theorem dX11_nextOrder_72 : decode cX11_nextOrder 72 = .ok (.iload_n 1, 1) := by decide +kernel
theorem dX11_nextOrder_73 : decode cX11_nextOrder 73 = .ok (.iaload, 1) := by decide +kernel
theorem dX11_nextOrder_74 : decode cX11_nextOrder 74 = .ok (.istore_n 3, 1) := by decide +kernel
theorem dX11_nextOrder_75 : decode cX11_nextOrder 75 = .ok (.aload_n 0, 1) := by decide +kernel
theorem dX11_nextOrder_76 : decode cX11_nextOrder 76 = .ok (.getfield 99, 3) := by decide +kernel
theorem dX11_nextOrder_79 : decode cX11_nextOrder 79 = .ok (.iload_n 1, 1) := by decide +kernel
theorem dX11_nextOrder_80 : decode cX11_nextOrder 80 = .ok (.aload_n 0, 1) := by decide +kernel
theorem dX11_nextOrder_81 : decode cX11_nextOrder 81 = .ok (.getfield 99, 3) := by decide +kernel
theorem dX11_nextOrder_84 : decode cX11_nextOrder 84 = .ok (.iload_n 2, 1) := by decide +kernel
theorem dX11_nextOrder_85 : decode cX11_nextOrder 85 = .ok (.iaload, 1) := by decide +kernel
theorem dX11_nextOrder_86 : decode cX11_nextOrder 86 = .ok (.iastore, 1) := by decide +kernel
theorem dX11_nextOrder_87 : decode cX11_nextOrder 87 = .ok (.aload_n 0, 1) := by decide +kernel
theorem dX11_nextOrder_88 : decode cX11_nextOrder 88 = .ok (.getfield 99, 3) := by decide +kernel
theorem dX11_nextOrder_91 : decode cX11_nextOrder 91 = .ok (.iload_n 2, 1) := by decide +kernel
theorem dX11_nextOrder_92 : decode cX11_nextOrder 92 = .ok (.iload_n 3, 1) := by decide +kernel
theorem dX11_nextOrder_93 : decode cX11_nextOrder 93 = .ok (.iastore, 1) := by decide +kernel
theorem dX11_nextOrder_94 : decode cX11_nextOrder 94 = .ok (.iload_n 1, 1) := by decide +kernel
theorem dX11_nextOrder_95 : decode cX11_nextOrder 95 = .ok (.iconst 1, 1) := by decide +kernel
theorem dX11_nextOrder_96 : decode cX11_nextOrder 96 = .ok (.iadd, 1) := by decide +kernel
theorem dX11_nextOrder_97 : decode cX11_nextOrder 97 = .ok (.istore 4, 2) := by decide +kernel
theorem dX11_nextOrder_99 : decode cX11_nextOrder 99 = .ok (.aload_n 0, 1) := by decide +kernel
theorem dX11_nextOrder_100 : decode cX11_nextOrder 100 = .ok (.getfield 340, 3) := by decide +kernel
theorem dX11_nextOrder_103 : decode cX11_nextOrder 103 = .ok (.iconst 1, 1) := by decide +kernel
theorem dX11_nextOrder_104 : decode cX11_nextOrder 104 = .ok (.isub, 1) := by decide +kernel
theorem dX11_nextOrder_105 : decode cX11_nextOrder 105 = .ok (.istore 5, 2) := by decide +kernel
theorem dX11_nextOrder_107 : decode cX11_nextOrder 107 = .ok (.iload 4, 2) := by decide +kernel
theorem dX11_nextOrder_109 : decode cX11_nextOrder 109 = .ok (.iload 5, 2) := by decide +kernel
theorem dX11_nextOrder_111 : decode cX11_nextOrder 111 = .ok (.if_icmp .ge 44, 3) := by decide +kernel
theorem dX11_nextOrder_114 : decode cX11_nextOrder 114 = .ok (.aload_n 0, 1) := by decide +kernel
theorem dX11_nextOrder_115 : decode cX11_nextOrder 115 = .ok (.getfield 99, 3) := by decide +kernel
theorem dX11_nextOrder_118 : decode cX11_nextOrder 118 = .ok (.iload 4, 2) := by decide +kernel
theorem dX11_nextOrder_120 : decode cX11_nextOrder 120 = .ok (.iaload, 1) := by decide +kernel
theorem dX11_nextOrder_121 : decode cX11_nextOrder 121 = .ok (.istore 6, 2) := by decide +kernel
theorem dX11_nextOrder_123 : decode cX11_nextOrder 123 = .ok (.aload_n 0, 1) := by decide +kernel
theorem dX11_nextOrder_124 : decode cX11_nextOrder 124 = .ok (.getfield 99, 3) := by decide +kernel
theorem dX11_nextOrder_127 : decode cX11_nextOrder 127 = .ok (.iload 4, 2) := by decide +kernel
theorem dX11_nextOrder_129 : decode cX11_nextOrder 129 = .ok (.aload_n 0, 1) := by decide +kernel
theorem dX11_nextOrder_130 : decode cX11_nextOrder 130 = .ok (.getfield 99, 3) := by decide +kernel
theorem dX11_nextOrder_133 : decode cX11_nextOrder 133 = .ok (.iload 5, 2) := by decide +kernel
theorem dX11_nextOrder_135 : decode cX11_nextOrder 135 = .ok (.iaload, 1) := by decide +kernel
theorem dX11_nextOrder_136 : decode cX11_nextOrder 136 = .ok (.iastore, 1) := by decide +kernel
theorem dX11_nextOrder_137 : decode cX11_nextOrder 137 = .ok (.aload_n 0, 1) := by decide +kernel
theorem dX11_nextOrder_138 : decode cX11_nextOrder 138 = .ok (.getfield 99, 3) := by decide +kernel
theorem dX11_nextOrder_141 : decode cX11_nextOrder 141 = .ok (.iload 5, 2) := by decide +kernel
theorem dX11_nextOrder_143 : decode cX11_nextOrder 143 = .ok (.iload 6, 2) := by decide +kernel
theorem dX11_nextOrder_145 : decode cX11_nextOrder 145 = .ok (.iastore, 1) := by decide +kernel
theorem dX11_nextOrder_146 : decode cX11_nextOrder 146 = .ok (.iinc 4 1, 3) := by decide +kernel
theorem dX11_nextOrder_149 : decode cX11_nextOrder 149 = .ok (.iinc 5 (-1), 3) := by decide +kernel
theorem dX11_nextOrder_152 : decode cX11_nextOrder 152 = .ok (.goto (-45), 3) := by decide +kernel
theorem dX11_nextOrder_155 : decode cX11_nextOrder 155 = .ok (.iconst 1, 1) := by decide +kernel
theorem dX11_nextOrder_156 : decode cX11_nextOrder 156 = .ok (.ireturn, 1) := by decide +kernel
theorem dX11_tellRow_0 : decode cX11_tellRow 0 = .ok (.aload_n 0, 1) := by decide +kernel
theorem dX11_tellRow_1 : decode cX11_tellRow 1 = .ok (.getfield 48, 3) := by decide +kernel
theorem dX11_tellRow_4 : decode cX11_tellRow 4 = .ok (.iload_n 1, 1) := by decide +kernel
theorem dX11_tellRow_5 : decode cX11_tellRow 5 = .ok (.iaload, 1) := by decide +kernel
theorem dX11_tellRow_6 : decode cX11_tellRow 6 = .ok (.istore 4, 2) := by decide +kernel
theorem dX11_tellRow_8 : decode cX11_tellRow 8 = .ok (.iload_n 3, 1) := by decide +kernel
theorem dX11_tellRow_9 : decode cX11_tellRow 9 = .ok (.istore 5, 2) := by decide +kernel
theorem dX11_tellRow_11 : decode cX11_tellRow 11 = .ok (.iconst 0, 1) := by decide +kernel
theorem dX11_tellRow_12 : decode cX11_tellRow 12 = .ok (.istore 6, 2) := by decide +kernel
theorem dX11_tellRow_14 : decode cX11_tellRow 14 = .ok (.iconst 0, 1) := by decide +kernel
theorem dX11_tellRow_15 : decode cX11_tellRow 15 = .ok (.istore 7, 2) := by decide +kernel
theorem dX11_tellRow_17 : decode cX11_tellRow 17 = .ok (.iload 7, 2) := by decide +kernel
theorem dX11_tellRow_19 : decode cX11_tellRow 19 = .ok (.aload_n 0, 1) := by decide +kernel
theorem dX11_tellRow_20 : decode cX11_tellRow 20 = .ok (.getfield 340, 3) := by decide +kernel
theorem dX11_tellRow_23 : decode cX11_tellRow 23 = .ok (.if_icmp .ge 69, 3) := by decide +kernel
theorem dX11_tellRow_26 : decode cX11_tellRow 26 = .ok (.iload 5, 2) := by decide +kernel
theorem dX11_tellRow_28 : decode cX11_tellRow 28 = .ok (.ifCond .lt 64, 3) := by decide +kernel
theorem dX11_tellRow_31 : decode cX11_tellRow 31 = .ok (.aload_n 0, 1) := by decide +kernel
theorem dX11_tellRow_32 : decode cX11_tellRow 32 = .ok (.iload 4, 2) := by decide +kernel
theorem dX11_tellRow_34 : decode cX11_tellRow 34 = .ok (.aload_n 0, 1) := by decide +kernel
theorem dX11_tellRow_35 : decode cX11_tellRow 35 = .ok (.getfield 99, 3) := by decide +kernel
theorem dX11_tellRow_38 : decode cX11_tellRow 38 = .ok (.iload 7, 2) := by decide +kernel
theorem dX11_tellRow_40 : decode cX11_tellRow 40 = .ok (.iaload, 1) := by decide +kernel
theorem dX11_tellRow_41 : decode cX11_tellRow 41 = .ok (.iload 5, 2) := by decide +kernel
theorem dX11_tellRow_43 : decode cX11_tellRow 43 = .ok (.iload_n 2, 1) := by decide +kernel
theorem dX11_tellRow_44 : decode cX11_tellRow 44 = .ok (.aload_n 0, 1) := by decide +kernel
theorem dX11_tellRow_45 : decode cX11_tellRow 45 = .ok (.getfield 54, 3) := by decide +kernel
theorem dX11_tellRow_48 : decode cX11_tellRow 48 = .ok (.iload_n 1, 1) := by decide +kernel
theorem dX11_tellRow_49 : decode cX11_tellRow 49 = .ok (.baload, 1) := by decide +kernel
theorem dX11_tellRow_50 : decode cX11_tellRow 50 = .ok (.invokevirtual 287, 3) := by decide +kernel
theorem dX11_tellRow_53 : decode cX11_tellRow 53 = .ok (.istore 5, 2) := by decide +kernel
theorem dX11_tellRow_55 : decode cX11_tellRow 55 = .ok (.aload_n 0, 1) := by decide +kernel
theorem dX11_tellRow_56 : decode cX11_tellRow 56 = .ok (.getfield 99, 3) := by decide +kernel
theorem dX11_tellRow_59 : decode cX11_tellRow 59 = .ok (.iload 7, 2) := by decide +kernel
theorem dX11_tellRow_61 : decode cX11_tellRow 61 = .ok (.iaload, 1) := by decide +kernel
theorem dX11_tellRow_62 : decode cX11_tellRow 62 = .ok (.istore 4, 2) := by decide +kernel
theorem dX11_tellRow_64 : decode cX11_tellRow 64 = .ok (.iload 6, 2) := by decide +kernel
theorem dX11_tellRow_66 : decode cX11_tellRow 66 = .ok (.iload 5, 2) := by decide +kernel
theorem dX11_tellRow_68 : decode cX11_tellRow 68 = .ok (.ifCond .ge 7, 3) := by decide +kernel
theorem dX11_tellRow_71 : decode cX11_tellRow 71 = .ok (.iconst 0, 1) := by decide +kernel
theorem dX11_tellRow_72 : decode cX11_tellRow 72 = .ok (.goto 11, 3) := by decide +kernel
theorem dX11_tellRow_75 : decode cX11_tellRow 75 = .ok (.aload_n 0, 1) := by decide +kernel
theorem dX11_tellRow_76 : decode cX11_tellRow 76 = .ok (.iload 4, 2) := by decide +kernel
theorem dX11_tellRow_78 : decode cX11_tellRow 78 = .ok (.iload 5, 2) := by decide +kernel
theorem dX11_tellRow_80 : decode cX11_tellRow 80 = .ok (.invokevirtual 343, 3) := by decide +kernel
theorem dX11_tellRow_83 : decode cX11_tellRow 83 = .ok (.iadd, 1) := by decide +kernel
theorem dX11_tellRow_84 : decode cX11_tellRow 84 = .ok (.istore 6, 2) := by decide +kernel
theorem dX11_tellRow_86 : decode cX11_tellRow 86 = .ok (.iinc 7 1, 3) := by decide +kernel
theorem dX11_tellRow_89 : decode cX11_tellRow 89 = .ok (.goto (-72), 3) := by decide +kernel
theorem dX11_tellRow_92 : decode cX11_tellRow 92 = .ok (.iload 5, 2) := by decide +kernel
theorem dX11_tellRow_94 : decode cX11_tellRow 94 = .ok (.ifCond .lt 30, 3) := by decide +kernel
theorem dX11_tellRow_97 : decode cX11_tellRow 97 = .ok (.aload_n 0, 1) := by decide +kernel
theorem dX11_tellRow_98 : decode cX11_tellRow 98 = .ok (.iload 4, 2) := by decide +kernel
theorem dX11_tellRow_100 : decode cX11_tellRow 100 = .ok (.aload_n 0, 1) := by decide +kernel
theorem dX11_tellRow_101 : decode cX11_tellRow 101 = .ok (.getfield 9, 3) := by decide +kernel
theorem dX11_tellRow_104 : decode cX11_tellRow 104 = .ok (.iload 5, 2) := by decide +kernel
theorem dX11_tellRow_106 : decode cX11_tellRow 106 = .ok (.iload_n 2, 1) := by decide +kernel
theorem dX11_tellRow_107 : decode cX11_tellRow 107 = .ok (.aload_n 0, 1) := by decide +kernel
theorem dX11_tellRow_108 : decode cX11_tellRow 108 = .ok (.getfield 54, 3) := by decide +kernel
theorem dX11_tellRow_111 : decode cX11_tellRow 111 = .ok (.iload_n 1, 1) := by decide +kernel
theorem dX11_tellRow_112 : decode cX11_tellRow 112 = .ok (.baload, 1) := by decide +kernel
theorem dX11_tellRow_113 : decode cX11_tellRow 113 = .ok (.invokevirtual 287, 3) := by decide +kernel
theorem dX11_tellRow_116 : decode cX11_tellRow 116 = .ok (.ifCond .lt 8, 3) := by decide +kernel
theorem dX11_tellRow_119 : decode cX11_tellRow 119 = .ok (.iload 6, 2) := by decide +kernel
theorem dX11_tellRow_121 : decode cX11_tellRow 121 = .ok (.goto 4, 3) := by decide +kernel
theorem dX11_tellRow_124 : decode cX11_tellRow 124 = .ok (.iconst (-1), 1) := by decide +kernel
theorem dX11_tellRow_125 : decode cX11_tellRow 125 = .ok (.ireturn, 1) := by decide +kernel
theorem dX11_tellSet_0 : decode cX11_tellSet 0 = .ok (.aload_n 0, 1) := by decide +kernel
theorem dX11_tellSet_1 : decode cX11_tellSet 1 = .ok (.iconst 0, 1) := by decide +kernel
theorem dX11_tellSet_2 : decode cX11_tellSet 2 = .ok (.putfield 340, 3) := by decide +kernel
theorem dX11_tellSet_5 : decode cX11_tellSet 5 = .ok (.iconst 0, 1) := by decide +kernel
theorem dX11_tellSet_6 : decode cX11_tellSet 6 = .ok (.istore 5, 2) := by decide +kernel
theorem dX11_tellSet_8 : decode cX11_tellSet 8 = .ok (.iload 5, 2) := by decide +kernel
theorem dX11_tellSet_10 : decode cX11_tellSet 10 = .ok (.aload_n 0, 1) := by decide +kernel
theorem dX11_tellSet_11 : decode cX11_tellSet 11 = .ok (.getfield 133, 3) := by decide +kernel
theorem dX11_tellSet_14 : decode cX11_tellSet 14 = .ok (.if_icmp .ge 40, 3) := by decide +kernel
theorem dX11_tellSet_17 : decode cX11_tellSet 17 = .ok (.iload 4, 2) := by decide +kernel
theorem dX11_tellSet_19 : decode cX11_tellSet 19 = .ok (.iload 5, 2) := by decide +kernel
theorem dX11_tellSet_21 : decode cX11_tellSet 21 = .ok (.invokestatic 346, 3) := by decide +kernel
theorem dX11_tellSet_24 : decode cX11_tellSet 24 = .ok (.ifCond .eq 24, 3) := by decide +kernel
theorem dX11_tellSet_27 : decode cX11_tellSet 27 = .ok (.aload_n 0, 1) := by decide +kernel
theorem dX11_tellSet_28 : decode cX11_tellSet 28 = .ok (.getfield 99, 3) := by decide +kernel
theorem dX11_tellSet_31 : decode cX11_tellSet 31 = .ok (.aload_n 0, 1) := by decide +kernel
theorem dX11_tellSet_32 : decode cX11_tellSet 32 = .ok (.getfield 340, 3) := by decide +kernel
theorem dX11_tellSet_35 : decode cX11_tellSet 35 = .ok (.iload 5, 2) := by decide +kernel
theorem dX11_tellSet_37 : decode cX11_tellSet 37 = .ok (.iastore, 1) := by decide +kernel
theorem dX11_tellSet_38 : decode cX11_tellSet 38 = .ok (.aload_n 0, 1) := by decide +kernel
theorem dX11_tellSet_39 : decode cX11_tellSet 39 = .ok (.dup, 1) := by decide +kernel
theorem dX11_tellSet_40 : decode cX11_tellSet 40 = .ok (.getfield 340, 3) := by decide +kernel
theorem dX11_tellSet_43 : decode cX11_tellSet 43 = .ok (.iconst 1, 1) := by decide +kernel
theorem dX11_tellSet_44 : decode cX11_tellSet 44 = .ok (.iadd, 1) := by decide +kernel
theorem dX11_tellSet_45 : decode cX11_tellSet 45 = .ok (.putfield 340, 3) := by decide +kernel
theorem dX11_tellSet_48 : decode cX11_tellSet 48 = .ok (.iinc 5 1, 3) := by decide +kernel
theorem dX11_tellSet_51 : decode cX11_tellSet 51 = .ok (.goto (-43), 3) := by decide +kernel
theorem dX11_tellSet_54 : decode cX11_tellSet 54 = .ok (.iconst (-1), 1) := by decide +kernel
theorem dX11_tellSet_55 : decode cX11_tellSet 55 = .ok (.istore 5, 2) := by decide +kernel
theorem dX11_tellSet_57 : decode cX11_tellSet 57 = .ok (.iconst 1, 1) := by decide +kernel
theorem dX11_tellSet_58 : decode cX11_tellSet 58 = .ok (.istore 6, 2) := by decide +kernel
theorem dX11_tellSet_60 : decode cX11_tellSet 60 = .ok (.iload 6, 2) := by decide +kernel
theorem dX11_tellSet_62 : decode cX11_tellSet 62 = .ok (.ifCond .eq 37, 3) := by decide +kernel
theorem dX11_tellSet_65 : decode cX11_tellSet 65 = .ok (.aload_n 0, 1) := by decide +kernel
theorem dX11_tellSet_66 : decode cX11_tellSet 66 = .ok (.iload_n 1, 1) := by decide +kernel
theorem dX11_tellSet_67 : decode cX11_tellSet 67 = .ok (.iload_n 2, 1) := by decide +kernel
theorem dX11_tellSet_68 : decode cX11_tellSet 68 = .ok (.iload_n 3, 1) := by decide +kernel
theorem dX11_tellSet_69 : decode cX11_tellSet 69 = .ok (.invokevirtual 350, 3) := by decide +kernel
theorem dX11_tellSet_72 : decode cX11_tellSet 72 = .ok (.istore 7, 2) := by decide +kernel
theorem dX11_tellSet_74 : decode cX11_tellSet 74 = .ok (.iload 7, 2) := by decide +kernel
theorem dX11_tellSet_76 : decode cX11_tellSet 76 = .ok (.iload 5, 2) := by decide +kernel
theorem dX11_tellSet_78 : decode cX11_tellSet 78 = .ok (.if_icmp .le 8, 3) := by decide +kernel
theorem dX11_tellSet_81 : decode cX11_tellSet 81 = .ok (.iload 7, 2) := by decide +kernel
theorem dX11_tellSet_83 : decode cX11_tellSet 83 = .ok (.goto 5, 3) := by decide +kernel
theorem dX11_tellSet_86 : decode cX11_tellSet 86 = .ok (.iload 5, 2) := by decide +kernel
theorem dX11_tellSet_88 : decode cX11_tellSet 88 = .ok (.istore 5, 2) := by decide +kernel
theorem dX11_tellSet_90 : decode cX11_tellSet 90 = .ok (.aload_n 0, 1) := by decide +kernel
theorem dX11_tellSet_91 : decode cX11_tellSet 91 = .ok (.invokevirtual 353, 3) := by decide +kernel
theorem dX11_tellSet_94 : decode cX11_tellSet 94 = .ok (.istore 6, 2) := by decide +kernel
theorem dX11_tellSet_96 : decode cX11_tellSet 96 = .ok (.goto (-36), 3) := by decide +kernel
theorem dX11_tellSet_99 : decode cX11_tellSet 99 = .ok (.iload 5, 2) := by decide +kernel
theorem dX11_tellSet_101 : decode cX11_tellSet 101 = .ok (.ireturn, 1) := by decide +kernel
theorem dX11_canTell_0 : decode cX11_canTell 0 = .ok (.aload_n 0, 1) := by decide +kernel
theorem dX11_canTell_1 : decode cX11_canTell 1 = .ok (.getfield 51, 3) := by decide +kernel
theorem dX11_canTell_4 : decode cX11_canTell 4 = .ok (.iload_n 1, 1) := by decide +kernel
theorem dX11_canTell_5 : decode cX11_canTell 5 = .ok (.baload, 1) := by decide +kernel
theorem dX11_canTell_6 : decode cX11_canTell 6 = .ok (.ifCond .eq 19, 3) := by decide +kernel
theorem dX11_canTell_9 : decode cX11_canTell 9 = .ok (.aload_n 0, 1) := by decide +kernel
theorem dX11_canTell_10 : decode cX11_canTell 10 = .ok (.invokevirtual 357, 3) := by decide +kernel
theorem dX11_canTell_13 : decode cX11_canTell 13 = .ok (.invokestatic 360, 3) := by decide +kernel
theorem dX11_canTell_16 : decode cX11_canTell 16 = .ok (.bipush 6, 2) := by decide +kernel
theorem dX11_canTell_18 : decode cX11_canTell 18 = .ok (.if_icmp .gt 7, 3) := by decide +kernel
theorem dX11_canTell_21 : decode cX11_canTell 21 = .ok (.iconst 1, 1) := by decide +kernel
theorem dX11_canTell_22 : decode cX11_canTell 22 = .ok (.goto 4, 3) := by decide +kernel
theorem dX11_canTell_25 : decode cX11_canTell 25 = .ok (.iconst 0, 1) := by decide +kernel
theorem dX11_canTell_26 : decode cX11_canTell 26 = .ok (.ireturn, 1) := by decide +kernel
theorem dX11_tells_0 : decode cX11_tells 0 = .ok (.aload_n 0, 1) := by decide +kernel
theorem dX11_tells_1 : decode cX11_tells 1 = .ok (.iload_n 1, 1) := by decide +kernel
theorem dX11_tells_2 : decode cX11_tells 2 = .ok (.invokevirtual 263, 3) := by decide +kernel
theorem dX11_tells_5 : decode cX11_tells 5 = .ok (.ifCond .eq 15, 3) := by decide +kernel
theorem dX11_tells_8 : decode cX11_tells 8 = .ok (.iload 4, 2) := by decide +kernel
theorem dX11_tells_10 : decode cX11_tells 10 = .ok (.aload_n 0, 1) := by decide +kernel
theorem dX11_tells_11 : decode cX11_tells 11 = .ok (.invokevirtual 357, 3) := by decide +kernel
theorem dX11_tells_14 : decode cX11_tells 14 = .ok (.iconst (-1), 1) := by decide +kernel
theorem dX11_tells_15 : decode cX11_tells 15 = .ok (.ixor, 1) := by decide +kernel
theorem dX11_tells_16 : decode cX11_tells 16 = .ok (.iand, 1) := by decide +kernel
theorem dX11_tells_17 : decode cX11_tells 17 = .ok (.ifCond .eq 7, 3) := by decide +kernel
theorem dX11_tells_20 : decode cX11_tells 20 = .ok (.sipush (-1001), 3) := by decide +kernel
theorem dX11_tells_23 : decode cX11_tells 23 = .ok (.ireturn, 1) := by decide +kernel
theorem dX11_tells_24 : decode cX11_tells 24 = .ok (.iload_n 2, 1) := by decide +kernel
theorem dX11_tells_25 : decode cX11_tells 25 = .ok (.invokestatic 284, 3) := by decide +kernel
theorem dX11_tells_28 : decode cX11_tells 28 = .ok (.ifCond .eq 10, 3) := by decide +kernel
theorem dX11_tells_31 : decode cX11_tells 31 = .ok (.iload_n 3, 1) := by decide +kernel
theorem dX11_tells_32 : decode cX11_tells 32 = .ok (.invokestatic 260, 3) := by decide +kernel
theorem dX11_tells_35 : decode cX11_tells 35 = .ok (.ifCond .ne 7, 3) := by decide +kernel
theorem dX11_tells_38 : decode cX11_tells 38 = .ok (.sipush (-1002), 3) := by decide +kernel
theorem dX11_tells_41 : decode cX11_tells 41 = .ok (.ireturn, 1) := by decide +kernel
theorem dX11_tells_42 : decode cX11_tells 42 = .ok (.aload_n 0, 1) := by decide +kernel
theorem dX11_tells_43 : decode cX11_tells 43 = .ok (.iload_n 1, 1) := by decide +kernel
theorem dX11_tells_44 : decode cX11_tells 44 = .ok (.invokevirtual 363, 3) := by decide +kernel
theorem dX11_tells_47 : decode cX11_tells 47 = .ok (.ifCond .ne 7, 3) := by decide +kernel
theorem dX11_tells_50 : decode cX11_tells 50 = .ok (.sipush (-1003), 3) := by decide +kernel
theorem dX11_tells_53 : decode cX11_tells 53 = .ok (.ireturn, 1) := by decide +kernel
theorem dX11_tells_54 : decode cX11_tells 54 = .ok (.aload_n 0, 1) := by decide +kernel
theorem dX11_tells_55 : decode cX11_tells 55 = .ok (.invokevirtual 366, 3) := by decide +kernel
theorem dX11_tells_58 : decode cX11_tells 58 = .ok (.aload_n 0, 1) := by decide +kernel
theorem dX11_tells_59 : decode cX11_tells 59 = .ok (.iload_n 1, 1) := by decide +kernel
theorem dX11_tells_60 : decode cX11_tells 60 = .ok (.iload_n 2, 1) := by decide +kernel
theorem dX11_tells_61 : decode cX11_tells 61 = .ok (.iload_n 3, 1) := by decide +kernel
theorem dX11_tells_62 : decode cX11_tells 62 = .ok (.iload 4, 2) := by decide +kernel
theorem dX11_tells_64 : decode cX11_tells 64 = .ok (.invokevirtual 369, 3) := by decide +kernel
theorem dX11_tells_67 : decode cX11_tells 67 = .ok (.ireturn, 1) := by decide +kernel
theorem dX11_toldBest_0 : decode cX11_toldBest 0 = .ok (.aload_n 0, 1) := by decide +kernel
theorem dX11_toldBest_1 : decode cX11_toldBest 1 = .ok (.iload_n 1, 1) := by decide +kernel
theorem dX11_toldBest_2 : decode cX11_toldBest 2 = .ok (.invokevirtual 263, 3) := by decide +kernel
theorem dX11_toldBest_5 : decode cX11_toldBest 5 = .ok (.ifCond .ne 7, 3) := by decide +kernel
theorem dX11_toldBest_8 : decode cX11_toldBest 8 = .ok (.sipush (-1001), 3) := by decide +kernel
theorem dX11_toldBest_11 : decode cX11_toldBest 11 = .ok (.ireturn, 1) := by decide +kernel
theorem dX11_toldBest_12 : decode cX11_toldBest 12 = .ok (.iload_n 2, 1) := by decide +kernel
theorem dX11_toldBest_13 : decode cX11_toldBest 13 = .ok (.invokestatic 284, 3) := by decide +kernel
theorem dX11_toldBest_16 : decode cX11_toldBest 16 = .ok (.ifCond .eq 21, 3) := by decide +kernel
theorem dX11_toldBest_19 : decode cX11_toldBest 19 = .ok (.iload_n 3, 1) := by decide +kernel
theorem dX11_toldBest_20 : decode cX11_toldBest 20 = .ok (.invokestatic 260, 3) := by decide +kernel
theorem dX11_toldBest_23 : decode cX11_toldBest 23 = .ok (.ifCond .eq 14, 3) := by decide +kernel
theorem dX11_toldBest_26 : decode cX11_toldBest 26 = .ok (.iload 4, 2) := by decide +kernel
theorem dX11_toldBest_28 : decode cX11_toldBest 28 = .ok (.i2l, 1) := by decide +kernel
theorem dX11_toldBest_29 : decode cX11_toldBest 29 = .ok (.lconst 0, 1) := by decide +kernel
theorem dX11_toldBest_30 : decode cX11_toldBest 30 = .ok (.lconst 1, 1) := by decide +kernel
theorem dX11_toldBest_31 : decode cX11_toldBest 31 = .ok (.invokestatic 136, 3) := by decide +kernel
theorem dX11_toldBest_34 : decode cX11_toldBest 34 = .ok (.ifCond .ne 7, 3) := by decide +kernel
theorem dX11_toldBest_37 : decode cX11_toldBest 37 = .ok (.sipush (-1002), 3) := by decide +kernel
theorem dX11_toldBest_40 : decode cX11_toldBest 40 = .ok (.ireturn, 1) := by decide +kernel
theorem dX11_toldBest_41 : decode cX11_toldBest 41 = .ok (.aload_n 0, 1) := by decide +kernel
theorem dX11_toldBest_42 : decode cX11_toldBest 42 = .ok (.iload_n 1, 1) := by decide +kernel
theorem dX11_toldBest_43 : decode cX11_toldBest 43 = .ok (.invokevirtual 363, 3) := by decide +kernel
theorem dX11_toldBest_46 : decode cX11_toldBest 46 = .ok (.ifCond .ne 7, 3) := by decide +kernel
theorem dX11_toldBest_49 : decode cX11_toldBest 49 = .ok (.sipush (-1003), 3) := by decide +kernel
theorem dX11_toldBest_52 : decode cX11_toldBest 52 = .ok (.ireturn, 1) := by decide +kernel
theorem dX11_toldBest_53 : decode cX11_toldBest 53 = .ok (.aload_n 0, 1) := by decide +kernel
theorem dX11_toldBest_54 : decode cX11_toldBest 54 = .ok (.invokevirtual 366, 3) := by decide +kernel
theorem dX11_toldBest_57 : decode cX11_toldBest 57 = .ok (.aload_n 0, 1) := by decide +kernel
theorem dX11_toldBest_58 : decode cX11_toldBest 58 = .ok (.invokevirtual 357, 3) := by decide +kernel
theorem dX11_toldBest_61 : decode cX11_toldBest 61 = .ok (.istore 5, 2) := by decide +kernel
theorem dX11_toldBest_63 : decode cX11_toldBest 63 = .ok (.iconst (-1), 1) := by decide +kernel
theorem dX11_toldBest_64 : decode cX11_toldBest 64 = .ok (.istore 6, 2) := by decide +kernel
theorem dX11_toldBest_66 : decode cX11_toldBest 66 = .ok (.iconst (-1), 1) := by decide +kernel
theorem dX11_toldBest_67 : decode cX11_toldBest 67 = .ok (.istore 7, 2) := by decide +kernel
theorem dX11_toldBest_69 : decode cX11_toldBest 69 = .ok (.iconst 0, 1) := by decide +kernel
theorem dX11_toldBest_70 : decode cX11_toldBest 70 = .ok (.istore 8, 2) := by decide +kernel
theorem dX11_toldBest_72 : decode cX11_toldBest 72 = .ok (.iload 8, 2) := by decide +kernel
theorem dX11_toldBest_74 : decode cX11_toldBest 74 = .ok (.sipush 4096, 3) := by decide +kernel
theorem dX11_toldBest_77 : decode cX11_toldBest 77 = .ok (.if_icmp .ge 66, 3) := by decide +kernel
theorem dX11_toldBest_80 : decode cX11_toldBest 80 = .ok (.iload 8, 2) := by decide +kernel
theorem dX11_toldBest_82 : decode cX11_toldBest 82 = .ok (.iload 5, 2) := by decide +kernel
theorem dX11_toldBest_84 : decode cX11_toldBest 84 = .ok (.iconst (-1), 1) := by decide +kernel
theorem dX11_toldBest_85 : decode cX11_toldBest 85 = .ok (.ixor, 1) := by decide +kernel
theorem dX11_toldBest_86 : decode cX11_toldBest 86 = .ok (.iand, 1) := by decide +kernel
theorem dX11_toldBest_87 : decode cX11_toldBest 87 = .ok (.ifCond .ne 15, 3) := by decide +kernel
theorem dX11_toldBest_90 : decode cX11_toldBest 90 = .ok (.aload_n 0, 1) := by decide +kernel
theorem dX11_toldBest_91 : decode cX11_toldBest 91 = .ok (.iload_n 1, 1) := by decide +kernel
theorem dX11_toldBest_92 : decode cX11_toldBest 92 = .ok (.iload_n 2, 1) := by decide +kernel
theorem dX11_toldBest_93 : decode cX11_toldBest 93 = .ok (.iload_n 3, 1) := by decide +kernel
theorem dX11_toldBest_94 : decode cX11_toldBest 94 = .ok (.iload 8, 2) := by decide +kernel
theorem dX11_toldBest_96 : decode cX11_toldBest 96 = .ok (.invokevirtual 369, 3) := by decide +kernel
theorem dX11_toldBest_99 : decode cX11_toldBest 99 = .ok (.goto 4, 3) := by decide +kernel
theorem dX11_toldBest_102 : decode cX11_toldBest 102 = .ok (.iconst (-1), 1) := by decide +kernel
theorem dX11_toldBest_103 : decode cX11_toldBest 103 = .ok (.istore 9, 2) := by decide +kernel
theorem dX11_toldBest_105 : decode cX11_toldBest 105 = .ok (.iload 9, 2) := by decide +kernel
theorem dX11_toldBest_107 : decode cX11_toldBest 107 = .ok (.iload 7, 2) := by decide +kernel
theorem dX11_toldBest_109 : decode cX11_toldBest 109 = .ok (.if_icmp .le 8, 3) := by decide +kernel
theorem dX11_toldBest_112 : decode cX11_toldBest 112 = .ok (.iload 8, 2) := by decide +kernel
theorem dX11_toldBest_114 : decode cX11_toldBest 114 = .ok (.goto 5, 3) := by decide +kernel
theorem dX11_toldBest_117 : decode cX11_toldBest 117 = .ok (.iload 6, 2) := by decide +kernel
theorem dX11_toldBest_119 : decode cX11_toldBest 119 = .ok (.istore 6, 2) := by decide +kernel
theorem dX11_toldBest_121 : decode cX11_toldBest 121 = .ok (.iload 9, 2) := by decide +kernel
theorem dX11_toldBest_123 : decode cX11_toldBest 123 = .ok (.iload 7, 2) := by decide +kernel
theorem dX11_toldBest_125 : decode cX11_toldBest 125 = .ok (.if_icmp .le 8, 3) := by decide +kernel
theorem dX11_toldBest_128 : decode cX11_toldBest 128 = .ok (.iload 9, 2) := by decide +kernel
theorem dX11_toldBest_130 : decode cX11_toldBest 130 = .ok (.goto 5, 3) := by decide +kernel
theorem dX11_toldBest_133 : decode cX11_toldBest 133 = .ok (.iload 7, 2) := by decide +kernel
theorem dX11_toldBest_135 : decode cX11_toldBest 135 = .ok (.istore 7, 2) := by decide +kernel
theorem dX11_toldBest_137 : decode cX11_toldBest 137 = .ok (.iinc 8 1, 3) := by decide +kernel
theorem dX11_toldBest_140 : decode cX11_toldBest 140 = .ok (.goto (-68), 3) := by decide +kernel
theorem dX11_toldBest_143 : decode cX11_toldBest 143 = .ok (.iload 4, 2) := by decide +kernel
theorem dX11_toldBest_145 : decode cX11_toldBest 145 = .ok (.ifCond .ne 8, 3) := by decide +kernel
theorem dX11_toldBest_148 : decode cX11_toldBest 148 = .ok (.iload 6, 2) := by decide +kernel
theorem dX11_toldBest_150 : decode cX11_toldBest 150 = .ok (.goto 5, 3) := by decide +kernel
theorem dX11_toldBest_153 : decode cX11_toldBest 153 = .ok (.iload 7, 2) := by decide +kernel
theorem dX11_toldBest_155 : decode cX11_toldBest 155 = .ok (.ireturn, 1) := by decide +kernel
theorem dX11_byTwo_0 : decode cX11_byTwo 0 = .ok (.aload_n 0, 1) := by decide +kernel
theorem dX11_byTwo_1 : decode cX11_byTwo 1 = .ok (.iload_n 1, 1) := by decide +kernel
theorem dX11_byTwo_2 : decode cX11_byTwo 2 = .ok (.invokevirtual 263, 3) := by decide +kernel
theorem dX11_byTwo_5 : decode cX11_byTwo 5 = .ok (.ifCond .eq 16, 3) := by decide +kernel
theorem dX11_byTwo_8 : decode cX11_byTwo 8 = .ok (.aload_n 0, 1) := by decide +kernel
theorem dX11_byTwo_9 : decode cX11_byTwo 9 = .ok (.iload_n 3, 1) := by decide +kernel
theorem dX11_byTwo_10 : decode cX11_byTwo 10 = .ok (.invokevirtual 263, 3) := by decide +kernel
theorem dX11_byTwo_13 : decode cX11_byTwo 13 = .ok (.ifCond .eq 8, 3) := by decide +kernel
theorem dX11_byTwo_16 : decode cX11_byTwo 16 = .ok (.iload_n 1, 1) := by decide +kernel
theorem dX11_byTwo_17 : decode cX11_byTwo 17 = .ok (.iload_n 3, 1) := by decide +kernel
theorem dX11_byTwo_18 : decode cX11_byTwo 18 = .ok (.if_icmp .ne 7, 3) := by decide +kernel
theorem dX11_byTwo_21 : decode cX11_byTwo 21 = .ok (.sipush (-1001), 3) := by decide +kernel
theorem dX11_byTwo_24 : decode cX11_byTwo 24 = .ok (.ireturn, 1) := by decide +kernel
theorem dX11_byTwo_25 : decode cX11_byTwo 25 = .ok (.iload_n 2, 1) := by decide +kernel
theorem dX11_byTwo_26 : decode cX11_byTwo 26 = .ok (.invokestatic 284, 3) := by decide +kernel
theorem dX11_byTwo_29 : decode cX11_byTwo 29 = .ok (.ifCond .eq 32, 3) := by decide +kernel
theorem dX11_byTwo_32 : decode cX11_byTwo 32 = .ok (.iload 4, 2) := by decide +kernel
theorem dX11_byTwo_34 : decode cX11_byTwo 34 = .ok (.invokestatic 284, 3) := by decide +kernel
theorem dX11_byTwo_37 : decode cX11_byTwo 37 = .ok (.ifCond .eq 24, 3) := by decide +kernel
theorem dX11_byTwo_40 : decode cX11_byTwo 40 = .ok (.iload 5, 2) := by decide +kernel
theorem dX11_byTwo_42 : decode cX11_byTwo 42 = .ok (.invokestatic 260, 3) := by decide +kernel
theorem dX11_byTwo_45 : decode cX11_byTwo 45 = .ok (.ifCond .eq 16, 3) := by decide +kernel
theorem dX11_byTwo_48 : decode cX11_byTwo 48 = .ok (.iload 6, 2) := by decide +kernel
theorem dX11_byTwo_50 : decode cX11_byTwo 50 = .ok (.i2l, 1) := by decide +kernel
theorem dX11_byTwo_51 : decode cX11_byTwo 51 = .ok (.lconst 0, 1) := by decide +kernel
theorem dX11_byTwo_52 : decode cX11_byTwo 52 = .ok (.ldc2_w 373, 3) := by decide +kernel
theorem dX11_byTwo_55 : decode cX11_byTwo 55 = .ok (.invokestatic 136, 3) := by decide +kernel
theorem dX11_byTwo_58 : decode cX11_byTwo 58 = .ok (.ifCond .ne 7, 3) := by decide +kernel
theorem dX11_byTwo_61 : decode cX11_byTwo 61 = .ok (.sipush (-1002), 3) := by decide +kernel
theorem dX11_byTwo_64 : decode cX11_byTwo 64 = .ok (.ireturn, 1) := by decide +kernel
theorem dX11_byTwo_65 : decode cX11_byTwo 65 = .ok (.aload_n 0, 1) := by decide +kernel
theorem dX11_byTwo_66 : decode cX11_byTwo 66 = .ok (.iload_n 1, 1) := by decide +kernel
theorem dX11_byTwo_67 : decode cX11_byTwo 67 = .ok (.invokevirtual 363, 3) := by decide +kernel
theorem dX11_byTwo_70 : decode cX11_byTwo 70 = .ok (.ifCond .eq 11, 3) := by decide +kernel
theorem dX11_byTwo_73 : decode cX11_byTwo 73 = .ok (.aload_n 0, 1) := by decide +kernel
theorem dX11_byTwo_74 : decode cX11_byTwo 74 = .ok (.iload_n 3, 1) := by decide +kernel
theorem dX11_byTwo_75 : decode cX11_byTwo 75 = .ok (.invokevirtual 363, 3) := by decide +kernel
theorem dX11_byTwo_78 : decode cX11_byTwo 78 = .ok (.ifCond .ne 7, 3) := by decide +kernel
theorem dX11_byTwo_81 : decode cX11_byTwo 81 = .ok (.sipush (-1003), 3) := by decide +kernel
theorem dX11_byTwo_84 : decode cX11_byTwo 84 = .ok (.ireturn, 1) := by decide +kernel
theorem dX11_byTwo_85 : decode cX11_byTwo 85 = .ok (.aload_n 0, 1) := by decide +kernel
theorem dX11_byTwo_86 : decode cX11_byTwo 86 = .ok (.invokevirtual 366, 3) := by decide +kernel
theorem dX11_byTwo_89 : decode cX11_byTwo 89 = .ok (.aload_n 0, 1) := by decide +kernel
theorem dX11_byTwo_90 : decode cX11_byTwo 90 = .ok (.invokevirtual 357, 3) := by decide +kernel
theorem dX11_byTwo_93 : decode cX11_byTwo 93 = .ok (.istore 7, 2) := by decide +kernel
theorem dX11_byTwo_95 : decode cX11_byTwo 95 = .ok (.iconst 0, 1) := by decide +kernel
theorem dX11_byTwo_96 : decode cX11_byTwo 96 = .ok (.istore 8, 2) := by decide +kernel
theorem dX11_byTwo_98 : decode cX11_byTwo 98 = .ok (.iload 8, 2) := by decide +kernel
theorem dX11_byTwo_100 : decode cX11_byTwo 100 = .ok (.sipush 4096, 3) := by decide +kernel
theorem dX11_byTwo_103 : decode cX11_byTwo 103 = .ok (.if_icmp .ge 79, 3) := by decide +kernel
theorem dX11_byTwo_106 : decode cX11_byTwo 106 = .ok (.iload 8, 2) := by decide +kernel
theorem dX11_byTwo_108 : decode cX11_byTwo 108 = .ok (.iload 7, 2) := by decide +kernel
theorem dX11_byTwo_110 : decode cX11_byTwo 110 = .ok (.iconst (-1), 1) := by decide +kernel
theorem dX11_byTwo_111 : decode cX11_byTwo 111 = .ok (.ixor, 1) := by decide +kernel
theorem dX11_byTwo_112 : decode cX11_byTwo 112 = .ok (.iand, 1) := by decide +kernel
theorem dX11_byTwo_113 : decode cX11_byTwo 113 = .ok (.ifCond .ne 7, 3) := by decide +kernel
theorem dX11_byTwo_116 : decode cX11_byTwo 116 = .ok (.iconst 1, 1) := by decide +kernel
theorem dX11_byTwo_117 : decode cX11_byTwo 117 = .ok (.goto 4, 3) := by decide +kernel
theorem dX11_byTwo_120 : decode cX11_byTwo 120 = .ok (.iconst 0, 1) := by decide +kernel
theorem dX11_byTwo_121 : decode cX11_byTwo 121 = .ok (.istore 9, 2) := by decide +kernel
theorem dX11_byTwo_123 : decode cX11_byTwo 123 = .ok (.aload_n 0, 1) := by decide +kernel
theorem dX11_byTwo_124 : decode cX11_byTwo 124 = .ok (.getfield 102, 3) := by decide +kernel
theorem dX11_byTwo_127 : decode cX11_byTwo 127 = .ok (.iload 8, 2) := by decide +kernel
theorem dX11_byTwo_129 : decode cX11_byTwo 129 = .ok (.iload 9, 2) := by decide +kernel
theorem dX11_byTwo_131 : decode cX11_byTwo 131 = .ok (.ifCond .eq 16, 3) := by decide +kernel
theorem dX11_byTwo_134 : decode cX11_byTwo 134 = .ok (.aload_n 0, 1) := by decide +kernel
theorem dX11_byTwo_135 : decode cX11_byTwo 135 = .ok (.iload_n 1, 1) := by decide +kernel
theorem dX11_byTwo_136 : decode cX11_byTwo 136 = .ok (.iload_n 2, 1) := by decide +kernel
theorem dX11_byTwo_137 : decode cX11_byTwo 137 = .ok (.iload 5, 2) := by decide +kernel
theorem dX11_byTwo_139 : decode cX11_byTwo 139 = .ok (.iload 8, 2) := by decide +kernel
theorem dX11_byTwo_141 : decode cX11_byTwo 141 = .ok (.invokevirtual 369, 3) := by decide +kernel
theorem dX11_byTwo_144 : decode cX11_byTwo 144 = .ok (.goto 4, 3) := by decide +kernel
theorem dX11_byTwo_147 : decode cX11_byTwo 147 = .ok (.iconst (-1), 1) := by decide +kernel
theorem dX11_byTwo_148 : decode cX11_byTwo 148 = .ok (.iastore, 1) := by decide +kernel
theorem dX11_byTwo_149 : decode cX11_byTwo 149 = .ok (.aload_n 0, 1) := by decide +kernel
theorem dX11_byTwo_150 : decode cX11_byTwo 150 = .ok (.getfield 105, 3) := by decide +kernel
theorem dX11_byTwo_153 : decode cX11_byTwo 153 = .ok (.iload 8, 2) := by decide +kernel
theorem dX11_byTwo_155 : decode cX11_byTwo 155 = .ok (.iload 9, 2) := by decide +kernel
theorem dX11_byTwo_157 : decode cX11_byTwo 157 = .ok (.ifCond .eq 17, 3) := by decide +kernel
theorem dX11_byTwo_160 : decode cX11_byTwo 160 = .ok (.aload_n 0, 1) := by decide +kernel
theorem dX11_byTwo_161 : decode cX11_byTwo 161 = .ok (.iload_n 3, 1) := by decide +kernel
theorem dX11_byTwo_162 : decode cX11_byTwo 162 = .ok (.iload 4, 2) := by decide +kernel
theorem dX11_byTwo_164 : decode cX11_byTwo 164 = .ok (.iload 5, 2) := by decide +kernel
theorem dX11_byTwo_166 : decode cX11_byTwo 166 = .ok (.iload 8, 2) := by decide +kernel
theorem dX11_byTwo_168 : decode cX11_byTwo 168 = .ok (.invokevirtual 369, 3) := by decide +kernel
theorem dX11_byTwo_171 : decode cX11_byTwo 171 = .ok (.goto 4, 3) := by decide +kernel
theorem dX11_byTwo_174 : decode cX11_byTwo 174 = .ok (.iconst (-1), 1) := by decide +kernel
theorem dX11_byTwo_175 : decode cX11_byTwo 175 = .ok (.iastore, 1) := by decide +kernel
theorem dX11_byTwo_176 : decode cX11_byTwo 176 = .ok (.iinc 8 1, 3) := by decide +kernel
theorem dX11_byTwo_179 : decode cX11_byTwo 179 = .ok (.goto (-81), 3) := by decide +kernel
theorem dX11_byTwo_182 : decode cX11_byTwo 182 = .ok (.iconst (-1), 1) := by decide +kernel
theorem dX11_byTwo_183 : decode cX11_byTwo 183 = .ok (.istore 8, 2) := by decide +kernel
theorem dX11_byTwo_185 : decode cX11_byTwo 185 = .ok (.iconst (-1), 1) := by decide +kernel
theorem dX11_byTwo_186 : decode cX11_byTwo 186 = .ok (.istore 9, 2) := by decide +kernel
theorem dX11_byTwo_188 : decode cX11_byTwo 188 = .ok (.iconst (-1), 1) := by decide +kernel
theorem dX11_byTwo_189 : decode cX11_byTwo 189 = .ok (.istore 10, 2) := by decide +kernel
theorem dX11_byTwo_191 : decode cX11_byTwo 191 = .ok (.iconst 0, 1) := by decide +kernel
theorem dX11_byTwo_192 : decode cX11_byTwo 192 = .ok (.istore 11, 2) := by decide +kernel
theorem dX11_byTwo_194 : decode cX11_byTwo 194 = .ok (.iload 11, 2) := by decide +kernel
theorem dX11_byTwo_196 : decode cX11_byTwo 196 = .ok (.sipush 4096, 3) := by decide +kernel
theorem dX11_byTwo_199 : decode cX11_byTwo 199 = .ok (.if_icmp .ge 111, 3) := by decide +kernel
theorem dX11_byTwo_202 : decode cX11_byTwo 202 = .ok (.iconst 0, 1) := by decide +kernel
theorem dX11_byTwo_203 : decode cX11_byTwo 203 = .ok (.istore 12, 2) := by decide +kernel
theorem dX11_byTwo_205 : decode cX11_byTwo 205 = .ok (.iload 12, 2) := by decide +kernel
theorem dX11_byTwo_207 : decode cX11_byTwo 207 = .ok (.sipush 4096, 3) := by decide +kernel
theorem dX11_byTwo_210 : decode cX11_byTwo 210 = .ok (.if_icmp .ge 94, 3) := by decide +kernel
theorem dX11_byTwo_213 : decode cX11_byTwo 213 = .ok (.aload_n 0, 1) := by decide +kernel
theorem dX11_byTwo_214 : decode cX11_byTwo 214 = .ok (.getfield 102, 3) := by decide +kernel
theorem dX11_byTwo_217 : decode cX11_byTwo 217 = .ok (.iload 11, 2) := by decide +kernel
theorem dX11_byTwo_219 : decode cX11_byTwo 219 = .ok (.iaload, 1) := by decide +kernel
theorem dX11_byTwo_220 : decode cX11_byTwo 220 = .ok (.ifCond .lt 84, 3) := by decide +kernel
theorem dX11_byTwo_223 : decode cX11_byTwo 223 = .ok (.iload 11, 2) := by decide +kernel
theorem dX11_byTwo_225 : decode cX11_byTwo 225 = .ok (.iload 12, 2) := by decide +kernel
theorem dX11_byTwo_227 : decode cX11_byTwo 227 = .ok (.iand, 1) := by decide +kernel
theorem dX11_byTwo_228 : decode cX11_byTwo 228 = .ok (.ifCond .ne 17, 3) := by decide +kernel
theorem dX11_byTwo_231 : decode cX11_byTwo 231 = .ok (.aload_n 0, 1) := by decide +kernel
theorem dX11_byTwo_232 : decode cX11_byTwo 232 = .ok (.getfield 105, 3) := by decide +kernel
theorem dX11_byTwo_235 : decode cX11_byTwo 235 = .ok (.iload 12, 2) := by decide +kernel
theorem dX11_byTwo_237 : decode cX11_byTwo 237 = .ok (.iaload, 1) := by decide +kernel
theorem dX11_byTwo_238 : decode cX11_byTwo 238 = .ok (.ifCond .lt 7, 3) := by decide +kernel
theorem dX11_byTwo_241 : decode cX11_byTwo 241 = .ok (.iconst 1, 1) := by decide +kernel
theorem dX11_byTwo_242 : decode cX11_byTwo 242 = .ok (.goto 4, 3) := by decide +kernel
theorem dX11_byTwo_245 : decode cX11_byTwo 245 = .ok (.iconst 0, 1) := by decide +kernel
theorem dX11_byTwo_246 : decode cX11_byTwo 246 = .ok (.istore 13, 2) := by decide +kernel
theorem dX11_byTwo_248 : decode cX11_byTwo 248 = .ok (.iload 13, 2) := by decide +kernel
theorem dX11_byTwo_250 : decode cX11_byTwo 250 = .ok (.ifCond .eq 48, 3) := by decide +kernel
theorem dX11_byTwo_253 : decode cX11_byTwo 253 = .ok (.aload_n 0, 1) := by decide +kernel
theorem dX11_byTwo_254 : decode cX11_byTwo 254 = .ok (.getfield 102, 3) := by decide +kernel
theorem dX11_byTwo_257 : decode cX11_byTwo 257 = .ok (.iload 11, 2) := by decide +kernel
theorem dX11_byTwo_259 : decode cX11_byTwo 259 = .ok (.iaload, 1) := by decide +kernel
theorem dX11_byTwo_260 : decode cX11_byTwo 260 = .ok (.aload_n 0, 1) := by decide +kernel
theorem dX11_byTwo_261 : decode cX11_byTwo 261 = .ok (.getfield 105, 3) := by decide +kernel
theorem dX11_byTwo_264 : decode cX11_byTwo 264 = .ok (.iload 12, 2) := by decide +kernel
theorem dX11_byTwo_266 : decode cX11_byTwo 266 = .ok (.iaload, 1) := by decide +kernel
theorem dX11_byTwo_267 : decode cX11_byTwo 267 = .ok (.iadd, 1) := by decide +kernel
theorem dX11_byTwo_268 : decode cX11_byTwo 268 = .ok (.iload 10, 2) := by decide +kernel
theorem dX11_byTwo_270 : decode cX11_byTwo 270 = .ok (.if_icmp .le 28, 3) := by decide +kernel
theorem dX11_byTwo_273 : decode cX11_byTwo 273 = .ok (.iload 11, 2) := by decide +kernel
theorem dX11_byTwo_275 : decode cX11_byTwo 275 = .ok (.istore 8, 2) := by decide +kernel
theorem dX11_byTwo_277 : decode cX11_byTwo 277 = .ok (.iload 12, 2) := by decide +kernel
theorem dX11_byTwo_279 : decode cX11_byTwo 279 = .ok (.istore 9, 2) := by decide +kernel
theorem dX11_byTwo_281 : decode cX11_byTwo 281 = .ok (.aload_n 0, 1) := by decide +kernel
theorem dX11_byTwo_282 : decode cX11_byTwo 282 = .ok (.getfield 102, 3) := by decide +kernel
theorem dX11_byTwo_285 : decode cX11_byTwo 285 = .ok (.iload 11, 2) := by decide +kernel
theorem dX11_byTwo_287 : decode cX11_byTwo 287 = .ok (.iaload, 1) := by decide +kernel
theorem dX11_byTwo_288 : decode cX11_byTwo 288 = .ok (.aload_n 0, 1) := by decide +kernel
theorem dX11_byTwo_289 : decode cX11_byTwo 289 = .ok (.getfield 105, 3) := by decide +kernel
theorem dX11_byTwo_292 : decode cX11_byTwo 292 = .ok (.iload 12, 2) := by decide +kernel
theorem dX11_byTwo_294 : decode cX11_byTwo 294 = .ok (.iaload, 1) := by decide +kernel
theorem dX11_byTwo_295 : decode cX11_byTwo 295 = .ok (.iadd, 1) := by decide +kernel
theorem dX11_byTwo_296 : decode cX11_byTwo 296 = .ok (.istore 10, 2) := by decide +kernel
theorem dX11_byTwo_298 : decode cX11_byTwo 298 = .ok (.iinc 12 1, 3) := by decide +kernel
theorem dX11_byTwo_301 : decode cX11_byTwo 301 = .ok (.goto (-96), 3) := by decide +kernel
theorem dX11_byTwo_304 : decode cX11_byTwo 304 = .ok (.iinc 11 1, 3) := by decide +kernel
theorem dX11_byTwo_307 : decode cX11_byTwo 307 = .ok (.goto (-113), 3) := by decide +kernel
theorem dX11_byTwo_310 : decode cX11_byTwo 310 = .ok (.iload 6, 2) := by decide +kernel
theorem dX11_byTwo_312 : decode cX11_byTwo 312 = .ok (.ifCond .ne 8, 3) := by decide +kernel
theorem dX11_byTwo_315 : decode cX11_byTwo 315 = .ok (.iload 8, 2) := by decide +kernel
theorem dX11_byTwo_317 : decode cX11_byTwo 317 = .ok (.goto 16, 3) := by decide +kernel
theorem dX11_byTwo_320 : decode cX11_byTwo 320 = .ok (.iload 6, 2) := by decide +kernel
theorem dX11_byTwo_322 : decode cX11_byTwo 322 = .ok (.iconst 1, 1) := by decide +kernel
theorem dX11_byTwo_323 : decode cX11_byTwo 323 = .ok (.if_icmp .ne 8, 3) := by decide +kernel
theorem dX11_byTwo_326 : decode cX11_byTwo 326 = .ok (.iload 9, 2) := by decide +kernel
theorem dX11_byTwo_328 : decode cX11_byTwo 328 = .ok (.goto 5, 3) := by decide +kernel
theorem dX11_byTwo_331 : decode cX11_byTwo 331 = .ok (.iload 10, 2) := by decide +kernel
theorem dX11_byTwo_333 : decode cX11_byTwo 333 = .ok (.ireturn, 1) := by decide +kernel
theorem dX11_tooLate_0 : decode cX11_tooLate 0 = .ok (.aload_n 0, 1) := by decide +kernel
theorem dX11_tooLate_1 : decode cX11_tooLate 1 = .ok (.iload_n 1, 1) := by decide +kernel
theorem dX11_tooLate_2 : decode cX11_tooLate 2 = .ok (.invokevirtual 263, 3) := by decide +kernel
theorem dX11_tooLate_5 : decode cX11_tooLate 5 = .ok (.ifCond .eq 22, 3) := by decide +kernel
theorem dX11_tooLate_8 : decode cX11_tooLate 8 = .ok (.aload_n 0, 1) := by decide +kernel
theorem dX11_tooLate_9 : decode cX11_tooLate 9 = .ok (.iload_n 3, 1) := by decide +kernel
theorem dX11_tooLate_10 : decode cX11_tooLate 10 = .ok (.invokevirtual 257, 3) := by decide +kernel
theorem dX11_tooLate_13 : decode cX11_tooLate 13 = .ok (.ifCond .eq 14, 3) := by decide +kernel
theorem dX11_tooLate_16 : decode cX11_tooLate 16 = .ok (.aload_n 0, 1) := by decide +kernel
theorem dX11_tooLate_17 : decode cX11_tooLate 17 = .ok (.invokevirtual 357, 3) := by decide +kernel
theorem dX11_tooLate_20 : decode cX11_tooLate 20 = .ok (.iload_n 3, 1) := by decide +kernel
theorem dX11_tooLate_21 : decode cX11_tooLate 21 = .ok (.invokestatic 346, 3) := by decide +kernel
theorem dX11_tooLate_24 : decode cX11_tooLate 24 = .ok (.ifCond .ne 7, 3) := by decide +kernel
theorem dX11_tooLate_27 : decode cX11_tooLate 27 = .ok (.sipush (-1001), 3) := by decide +kernel
theorem dX11_tooLate_30 : decode cX11_tooLate 30 = .ok (.ireturn, 1) := by decide +kernel
theorem dX11_tooLate_31 : decode cX11_tooLate 31 = .ok (.iload_n 2, 1) := by decide +kernel
theorem dX11_tooLate_32 : decode cX11_tooLate 32 = .ok (.invokestatic 284, 3) := by decide +kernel
theorem dX11_tooLate_35 : decode cX11_tooLate 35 = .ok (.ifCond .ne 7, 3) := by decide +kernel
theorem dX11_tooLate_38 : decode cX11_tooLate 38 = .ok (.sipush (-1002), 3) := by decide +kernel
theorem dX11_tooLate_41 : decode cX11_tooLate 41 = .ok (.ireturn, 1) := by decide +kernel
theorem dX11_tooLate_42 : decode cX11_tooLate 42 = .ok (.aload_n 0, 1) := by decide +kernel
theorem dX11_tooLate_43 : decode cX11_tooLate 43 = .ok (.iload_n 1, 1) := by decide +kernel
theorem dX11_tooLate_44 : decode cX11_tooLate 44 = .ok (.invokevirtual 363, 3) := by decide +kernel
theorem dX11_tooLate_47 : decode cX11_tooLate 47 = .ok (.ifCond .ne 7, 3) := by decide +kernel
theorem dX11_tooLate_50 : decode cX11_tooLate 50 = .ok (.sipush (-1003), 3) := by decide +kernel
theorem dX11_tooLate_53 : decode cX11_tooLate 53 = .ok (.ireturn, 1) := by decide +kernel
theorem dX11_tooLate_54 : decode cX11_tooLate 54 = .ok (.aload_n 0, 1) := by decide +kernel
theorem dX11_tooLate_55 : decode cX11_tooLate 55 = .ok (.invokevirtual 366, 3) := by decide +kernel
theorem dX11_tooLate_58 : decode cX11_tooLate 58 = .ok (.iconst 0, 1) := by decide +kernel
theorem dX11_tooLate_59 : decode cX11_tooLate 59 = .ok (.istore 4, 2) := by decide +kernel
theorem dX11_tooLate_61 : decode cX11_tooLate 61 = .ok (.iload 4, 2) := by decide +kernel
theorem dX11_tooLate_63 : decode cX11_tooLate 63 = .ok (.bipush 99, 2) := by decide +kernel
theorem dX11_tooLate_65 : decode cX11_tooLate 65 = .ok (.if_icmp .gt 26, 3) := by decide +kernel
theorem dX11_tooLate_68 : decode cX11_tooLate 68 = .ok (.aload_n 0, 1) := by decide +kernel
theorem dX11_tooLate_69 : decode cX11_tooLate 69 = .ok (.iload_n 1, 1) := by decide +kernel
theorem dX11_tooLate_70 : decode cX11_tooLate 70 = .ok (.iload_n 2, 1) := by decide +kernel
theorem dX11_tooLate_71 : decode cX11_tooLate 71 = .ok (.iload 4, 2) := by decide +kernel
theorem dX11_tooLate_73 : decode cX11_tooLate 73 = .ok (.iconst 1, 1) := by decide +kernel
theorem dX11_tooLate_74 : decode cX11_tooLate 74 = .ok (.iload_n 3, 1) := by decide +kernel
theorem dX11_tooLate_75 : decode cX11_tooLate 75 = .ok (.ishl, 1) := by decide +kernel
theorem dX11_tooLate_76 : decode cX11_tooLate 76 = .ok (.invokevirtual 369, 3) := by decide +kernel
theorem dX11_tooLate_79 : decode cX11_tooLate 79 = .ok (.ifCond .ge 6, 3) := by decide +kernel
theorem dX11_tooLate_82 : decode cX11_tooLate 82 = .ok (.iload 4, 2) := by decide +kernel
theorem dX11_tooLate_84 : decode cX11_tooLate 84 = .ok (.ireturn, 1) := by decide +kernel
theorem dX11_tooLate_85 : decode cX11_tooLate 85 = .ok (.iinc 4 1, 3) := by decide +kernel
theorem dX11_tooLate_88 : decode cX11_tooLate 88 = .ok (.goto (-27), 3) := by decide +kernel
theorem dX11_tooLate_91 : decode cX11_tooLate 91 = .ok (.bipush 100, 2) := by decide +kernel
theorem dX11_tooLate_93 : decode cX11_tooLate 93 = .ok (.ireturn, 1) := by decide +kernel
theorem dX11_go_0 : decode cX11_go 0 = .ok (.aload_n 0, 1) := by decide +kernel
theorem dX11_go_1 : decode cX11_go 1 = .ok (.iload_n 1, 1) := by decide +kernel
theorem dX11_go_2 : decode cX11_go 2 = .ok (.invokevirtual 257, 3) := by decide +kernel
theorem dX11_go_5 : decode cX11_go 5 = .ok (.ifCond .ne 7, 3) := by decide +kernel
theorem dX11_go_8 : decode cX11_go 8 = .ok (.sipush (-1001), 3) := by decide +kernel
theorem dX11_go_11 : decode cX11_go 11 = .ok (.ireturn, 1) := by decide +kernel
theorem dX11_go_12 : decode cX11_go 12 = .ok (.aload_n 0, 1) := by decide +kernel
theorem dX11_go_13 : decode cX11_go 13 = .ok (.getfield 246, 3) := by decide +kernel
theorem dX11_go_16 : decode cX11_go 16 = .ok (.bipush 12, 2) := by decide +kernel
theorem dX11_go_18 : decode cX11_go 18 = .ok (.if_icmp .ne 7, 3) := by decide +kernel
theorem dX11_go_21 : decode cX11_go 21 = .ok (.sipush (-1004), 3) := by decide +kernel
theorem dX11_go_24 : decode cX11_go 24 = .ok (.ireturn, 1) := by decide +kernel
theorem dX11_go_25 : decode cX11_go 25 = .ok (.aload_n 0, 1) := by decide +kernel
theorem dX11_go_26 : decode cX11_go 26 = .ok (.getfield 108, 3) := by decide +kernel
theorem dX11_go_29 : decode cX11_go 29 = .ok (.aload_n 0, 1) := by decide +kernel
theorem dX11_go_30 : decode cX11_go 30 = .ok (.getfield 246, 3) := by decide +kernel
theorem dX11_go_33 : decode cX11_go 33 = .ok (.iload_n 1, 1) := by decide +kernel
theorem dX11_go_34 : decode cX11_go 34 = .ok (.iastore, 1) := by decide +kernel
theorem dX11_go_35 : decode cX11_go 35 = .ok (.aload_n 0, 1) := by decide +kernel
theorem dX11_go_36 : decode cX11_go 36 = .ok (.dup, 1) := by decide +kernel
theorem dX11_go_37 : decode cX11_go 37 = .ok (.getfield 246, 3) := by decide +kernel
theorem dX11_go_40 : decode cX11_go 40 = .ok (.iconst 1, 1) := by decide +kernel
theorem dX11_go_41 : decode cX11_go 41 = .ok (.iadd, 1) := by decide +kernel
theorem dX11_go_42 : decode cX11_go 42 = .ok (.putfield 246, 3) := by decide +kernel
theorem dX11_go_45 : decode cX11_go 45 = .ok (.aload_n 0, 1) := by decide +kernel
theorem dX11_go_46 : decode cX11_go 46 = .ok (.getfield 246, 3) := by decide +kernel
theorem dX11_go_49 : decode cX11_go 49 = .ok (.ireturn, 1) := by decide +kernel
theorem dX11_clear_0 : decode cX11_clear 0 = .ok (.aload_n 0, 1) := by decide +kernel
theorem dX11_clear_1 : decode cX11_clear 1 = .ok (.getfield 246, 3) := by decide +kernel
theorem dX11_clear_4 : decode cX11_clear 4 = .ok (.istore_n 1, 1) := by decide +kernel
theorem dX11_clear_5 : decode cX11_clear 5 = .ok (.aload_n 0, 1) := by decide +kernel
theorem dX11_clear_6 : decode cX11_clear 6 = .ok (.iconst 0, 1) := by decide +kernel
theorem dX11_clear_7 : decode cX11_clear 7 = .ok (.putfield 246, 3) := by decide +kernel
theorem dX11_clear_10 : decode cX11_clear 10 = .ok (.iload_n 1, 1) := by decide +kernel
theorem dX11_clear_11 : decode cX11_clear 11 = .ok (.ireturn, 1) := by decide +kernel
theorem dX11_wayTo_0 : decode cX11_wayTo 0 = .ok (.iconst (-1), 1) := by decide +kernel
theorem dX11_wayTo_1 : decode cX11_wayTo 1 = .ok (.istore 6, 2) := by decide +kernel
theorem dX11_wayTo_3 : decode cX11_wayTo 3 = .ok (.iconst 0, 1) := by decide +kernel
theorem dX11_wayTo_4 : decode cX11_wayTo 4 = .ok (.istore 7, 2) := by decide +kernel
theorem dX11_wayTo_6 : decode cX11_wayTo 6 = .ok (.iconst 0, 1) := by decide +kernel
theorem dX11_wayTo_7 : decode cX11_wayTo 7 = .ok (.istore 8, 2) := by decide +kernel
theorem dX11_wayTo_9 : decode cX11_wayTo 9 = .ok (.iload 8, 2) := by decide +kernel
theorem dX11_wayTo_11 : decode cX11_wayTo 11 = .ok (.aload_n 0, 1) := by decide +kernel
theorem dX11_wayTo_12 : decode cX11_wayTo 12 = .ok (.getfield 140, 3) := by decide +kernel
theorem dX11_wayTo_15 : decode cX11_wayTo 15 = .ok (.if_icmp .ge 107, 3) := by decide +kernel
theorem dX11_wayTo_18 : decode cX11_wayTo 18 = .ok (.aload_n 0, 1) := by decide +kernel
theorem dX11_wayTo_19 : decode cX11_wayTo 19 = .ok (.getfield 13, 3) := by decide +kernel
theorem dX11_wayTo_22 : decode cX11_wayTo 22 = .ok (.iload 8, 2) := by decide +kernel
theorem dX11_wayTo_24 : decode cX11_wayTo 24 = .ok (.iaload, 1) := by decide +kernel
theorem dX11_wayTo_25 : decode cX11_wayTo 25 = .ok (.iload_n 1, 1) := by decide +kernel
theorem dX11_wayTo_26 : decode cX11_wayTo 26 = .ok (.if_icmp .ne 14, 3) := by decide +kernel
theorem dX11_wayTo_29 : decode cX11_wayTo 29 = .ok (.aload_n 0, 1) := by decide +kernel
theorem dX11_wayTo_30 : decode cX11_wayTo 30 = .ok (.getfield 17, 3) := by decide +kernel
theorem dX11_wayTo_33 : decode cX11_wayTo 33 = .ok (.iload 8, 2) := by decide +kernel
theorem dX11_wayTo_35 : decode cX11_wayTo 35 = .ok (.iaload, 1) := by decide +kernel
theorem dX11_wayTo_36 : decode cX11_wayTo 36 = .ok (.iload_n 2, 1) := by decide +kernel
theorem dX11_wayTo_37 : decode cX11_wayTo 37 = .ok (.if_icmp .eq 25, 3) := by decide +kernel
theorem dX11_wayTo_40 : decode cX11_wayTo 40 = .ok (.aload_n 0, 1) := by decide +kernel
theorem dX11_wayTo_41 : decode cX11_wayTo 41 = .ok (.getfield 13, 3) := by decide +kernel
theorem dX11_wayTo_44 : decode cX11_wayTo 44 = .ok (.iload 8, 2) := by decide +kernel
theorem dX11_wayTo_46 : decode cX11_wayTo 46 = .ok (.iaload, 1) := by decide +kernel
theorem dX11_wayTo_47 : decode cX11_wayTo 47 = .ok (.iload_n 2, 1) := by decide +kernel
theorem dX11_wayTo_48 : decode cX11_wayTo 48 = .ok (.if_icmp .ne 18, 3) := by decide +kernel
theorem dX11_wayTo_51 : decode cX11_wayTo 51 = .ok (.aload_n 0, 1) := by decide +kernel
theorem dX11_wayTo_52 : decode cX11_wayTo 52 = .ok (.getfield 17, 3) := by decide +kernel
theorem dX11_wayTo_55 : decode cX11_wayTo 55 = .ok (.iload 8, 2) := by decide +kernel
theorem dX11_wayTo_57 : decode cX11_wayTo 57 = .ok (.iaload, 1) := by decide +kernel
theorem dX11_wayTo_58 : decode cX11_wayTo 58 = .ok (.iload_n 1, 1) := by decide +kernel
theorem dX11_wayTo_59 : decode cX11_wayTo 59 = .ok (.if_icmp .ne 7, 3) := by decide +kernel
theorem dX11_wayTo_62 : decode cX11_wayTo 62 = .ok (.iconst 1, 1) := by decide +kernel
theorem dX11_wayTo_63 : decode cX11_wayTo 63 = .ok (.goto 4, 3) := by decide +kernel
theorem dX11_wayTo_66 : decode cX11_wayTo 66 = .ok (.iconst 0, 1) := by decide +kernel
theorem dX11_wayTo_67 : decode cX11_wayTo 67 = .ok (.istore 9, 2) := by decide +kernel
theorem dX11_wayTo_69 : decode cX11_wayTo 69 = .ok (.iload 9, 2) := by decide +kernel
theorem dX11_wayTo_71 : decode cX11_wayTo 71 = .ok (.ifCond .eq 17, 3) := by decide +kernel
theorem dX11_wayTo_74 : decode cX11_wayTo 74 = .ok (.aload_n 0, 1) := by decide +kernel
theorem dX11_wayTo_75 : decode cX11_wayTo 75 = .ok (.iload 8, 2) := by decide +kernel
theorem dX11_wayTo_77 : decode cX11_wayTo 77 = .ok (.iload_n 3, 1) := by decide +kernel
theorem dX11_wayTo_78 : decode cX11_wayTo 78 = .ok (.iload 4, 2) := by decide +kernel
theorem dX11_wayTo_80 : decode cX11_wayTo 80 = .ok (.iload 5, 2) := by decide +kernel
theorem dX11_wayTo_82 : decode cX11_wayTo 82 = .ok (.invokevirtual 276, 3) := by decide +kernel
theorem dX11_wayTo_85 : decode cX11_wayTo 85 = .ok (.goto 4, 3) := by decide +kernel
theorem dX11_wayTo_88 : decode cX11_wayTo 88 = .ok (.iconst (-1), 1) := by decide +kernel
theorem dX11_wayTo_89 : decode cX11_wayTo 89 = .ok (.istore 10, 2) := by decide +kernel
theorem dX11_wayTo_91 : decode cX11_wayTo 91 = .ok (.iload 10, 2) := by decide +kernel
theorem dX11_wayTo_93 : decode cX11_wayTo 93 = .ok (.ifCond .lt 23, 3) := by decide +kernel
theorem dX11_wayTo_96 : decode cX11_wayTo 96 = .ok (.iload 6, 2) := by decide +kernel
theorem dX11_wayTo_98 : decode cX11_wayTo 98 = .ok (.ifCond .lt 10, 3) := by decide +kernel
theorem dX11_wayTo_101 : decode cX11_wayTo 101 = .ok (.iload 10, 2) := by decide +kernel
theorem dX11_wayTo_103 : decode cX11_wayTo 103 = .ok (.iload 7, 2) := by decide +kernel
theorem dX11_wayTo_105 : decode cX11_wayTo 105 = .ok (.if_icmp .ge 11, 3) := by decide +kernel
theorem dX11_wayTo_108 : decode cX11_wayTo 108 = .ok (.iload 8, 2) := by decide +kernel
theorem dX11_wayTo_110 : decode cX11_wayTo 110 = .ok (.istore 6, 2) := by decide +kernel
theorem dX11_wayTo_112 : decode cX11_wayTo 112 = .ok (.iload 10, 2) := by decide +kernel
theorem dX11_wayTo_114 : decode cX11_wayTo 114 = .ok (.istore 7, 2) := by decide +kernel
theorem dX11_wayTo_116 : decode cX11_wayTo 116 = .ok (.iinc 8 1, 3) := by decide +kernel
theorem dX11_wayTo_119 : decode cX11_wayTo 119 = .ok (.goto (-110), 3) := by decide +kernel
theorem dX11_wayTo_122 : decode cX11_wayTo 122 = .ok (.iload 6, 2) := by decide +kernel
theorem dX11_wayTo_124 : decode cX11_wayTo 124 = .ok (.ireturn, 1) := by decide +kernel
theorem dX11_goRow_0 : decode cX11_goRow 0 = .ok (.aload_n 0, 1) := by decide +kernel
theorem dX11_goRow_1 : decode cX11_goRow 1 = .ok (.iload_n 1, 1) := by decide +kernel
theorem dX11_goRow_2 : decode cX11_goRow 2 = .ok (.putfield 375, 3) := by decide +kernel
theorem dX11_goRow_5 : decode cX11_goRow 5 = .ok (.aload_n 0, 1) := by decide +kernel
theorem dX11_goRow_6 : decode cX11_goRow 6 = .ok (.ldc2_w 378, 3) := by decide +kernel
theorem dX11_goRow_9 : decode cX11_goRow 9 = .ok (.putfield 380, 3) := by decide +kernel
theorem dX11_goRow_12 : decode cX11_goRow 12 = .ok (.iconst 1, 1) := by decide +kernel
theorem dX11_goRow_13 : decode cX11_goRow 13 = .ok (.istore 4, 2) := by decide +kernel
theorem dX11_goRow_15 : decode cX11_goRow 15 = .ok (.iload 4, 2) := by decide +kernel
theorem dX11_goRow_17 : decode cX11_goRow 17 = .ok (.aload_n 0, 1) := by decide +kernel
theorem dX11_goRow_18 : decode cX11_goRow 18 = .ok (.getfield 246, 3) := by decide +kernel
theorem dX11_goRow_21 : decode cX11_goRow 21 = .ok (.if_icmp .ge 85, 3) := by decide +kernel
theorem dX11_goRow_24 : decode cX11_goRow 24 = .ok (.aload_n 0, 1) := by decide +kernel
theorem dX11_goRow_25 : decode cX11_goRow 25 = .ok (.aload_n 0, 1) := by decide +kernel
theorem dX11_goRow_26 : decode cX11_goRow 26 = .ok (.getfield 108, 3) := by decide +kernel
theorem dX11_goRow_29 : decode cX11_goRow 29 = .ok (.iload 4, 2) := by decide +kernel
theorem dX11_goRow_31 : decode cX11_goRow 31 = .ok (.iconst 1, 1) := by decide +kernel
theorem dX11_goRow_32 : decode cX11_goRow 32 = .ok (.isub, 1) := by decide +kernel
theorem dX11_goRow_33 : decode cX11_goRow 33 = .ok (.iaload, 1) := by decide +kernel
theorem dX11_goRow_34 : decode cX11_goRow 34 = .ok (.aload_n 0, 1) := by decide +kernel
theorem dX11_goRow_35 : decode cX11_goRow 35 = .ok (.getfield 108, 3) := by decide +kernel
theorem dX11_goRow_38 : decode cX11_goRow 38 = .ok (.iload 4, 2) := by decide +kernel
theorem dX11_goRow_40 : decode cX11_goRow 40 = .ok (.iaload, 1) := by decide +kernel
theorem dX11_goRow_41 : decode cX11_goRow 41 = .ok (.aload_n 0, 1) := by decide +kernel
theorem dX11_goRow_42 : decode cX11_goRow 42 = .ok (.getfield 375, 3) := by decide +kernel
theorem dX11_goRow_45 : decode cX11_goRow 45 = .ok (.iload_n 2, 1) := by decide +kernel
theorem dX11_goRow_46 : decode cX11_goRow 46 = .ok (.iload_n 3, 1) := by decide +kernel
theorem dX11_goRow_47 : decode cX11_goRow 47 = .ok (.invokevirtual 383, 3) := by decide +kernel
theorem dX11_goRow_50 : decode cX11_goRow 50 = .ok (.istore 5, 2) := by decide +kernel
theorem dX11_goRow_52 : decode cX11_goRow 52 = .ok (.iload 5, 2) := by decide +kernel
theorem dX11_goRow_54 : decode cX11_goRow 54 = .ok (.ifCond .ge 6, 3) := by decide +kernel
theorem dX11_goRow_57 : decode cX11_goRow 57 = .ok (.iload 4, 2) := by decide +kernel
theorem dX11_goRow_59 : decode cX11_goRow 59 = .ok (.ireturn, 1) := by decide +kernel
theorem dX11_goRow_60 : decode cX11_goRow 60 = .ok (.aload_n 0, 1) := by decide +kernel
theorem dX11_goRow_61 : decode cX11_goRow 61 = .ok (.aload_n 0, 1) := by decide +kernel
theorem dX11_goRow_62 : decode cX11_goRow 62 = .ok (.iload 5, 2) := by decide +kernel
theorem dX11_goRow_64 : decode cX11_goRow 64 = .ok (.aload_n 0, 1) := by decide +kernel
theorem dX11_goRow_65 : decode cX11_goRow 65 = .ok (.getfield 375, 3) := by decide +kernel
theorem dX11_goRow_68 : decode cX11_goRow 68 = .ok (.iload_n 2, 1) := by decide +kernel
theorem dX11_goRow_69 : decode cX11_goRow 69 = .ok (.iload_n 3, 1) := by decide +kernel
theorem dX11_goRow_70 : decode cX11_goRow 70 = .ok (.invokevirtual 276, 3) := by decide +kernel
theorem dX11_goRow_73 : decode cX11_goRow 73 = .ok (.putfield 375, 3) := by decide +kernel
theorem dX11_goRow_76 : decode cX11_goRow 76 = .ok (.aload_n 0, 1) := by decide +kernel
theorem dX11_goRow_77 : decode cX11_goRow 77 = .ok (.aload_n 0, 1) := by decide +kernel
theorem dX11_goRow_78 : decode cX11_goRow 78 = .ok (.getfield 380, 3) := by decide +kernel
theorem dX11_goRow_81 : decode cX11_goRow 81 = .ok (.aload_n 0, 1) := by decide +kernel
theorem dX11_goRow_82 : decode cX11_goRow 82 = .ok (.iload 5, 2) := by decide +kernel
theorem dX11_goRow_84 : decode cX11_goRow 84 = .ok (.aload_n 0, 1) := by decide +kernel
theorem dX11_goRow_85 : decode cX11_goRow 85 = .ok (.getfield 375, 3) := by decide +kernel
theorem dX11_goRow_88 : decode cX11_goRow 88 = .ok (.invokevirtual 386, 3) := by decide +kernel
theorem dX11_goRow_91 : decode cX11_goRow 91 = .ok (.i2l, 1) := by decide +kernel
theorem dX11_goRow_92 : decode cX11_goRow 92 = .ok (.lmul, 1) := by decide +kernel
theorem dX11_goRow_93 : decode cX11_goRow 93 = .ok (.ldc2_w 378, 3) := by decide +kernel
theorem dX11_goRow_96 : decode cX11_goRow 96 = .ok (.ldiv, 1) := by decide +kernel
theorem dX11_goRow_97 : decode cX11_goRow 97 = .ok (.putfield 380, 3) := by decide +kernel
theorem dX11_goRow_100 : decode cX11_goRow 100 = .ok (.iinc 4 1, 3) := by decide +kernel
theorem dX11_goRow_103 : decode cX11_goRow 103 = .ok (.goto (-88), 3) := by decide +kernel
theorem dX11_goRow_106 : decode cX11_goRow 106 = .ok (.iconst (-1), 1) := by decide +kernel
theorem dX11_goRow_107 : decode cX11_goRow 107 = .ok (.ireturn, 1) := by decide +kernel
theorem dX11_judge_0 : decode cX11_judge 0 = .ok (.aload_n 0, 1) := by decide +kernel
theorem dX11_judge_1 : decode cX11_judge 1 = .ok (.iload_n 1, 1) := by decide +kernel
theorem dX11_judge_2 : decode cX11_judge 2 = .ok (.invokevirtual 263, 3) := by decide +kernel
theorem dX11_judge_5 : decode cX11_judge 5 = .ok (.ifCond .ne 7, 3) := by decide +kernel
theorem dX11_judge_8 : decode cX11_judge 8 = .ok (.sipush (-1001), 3) := by decide +kernel
theorem dX11_judge_11 : decode cX11_judge 11 = .ok (.ireturn, 1) := by decide +kernel
theorem dX11_judge_12 : decode cX11_judge 12 = .ok (.iload_n 2, 1) := by decide +kernel
theorem dX11_judge_13 : decode cX11_judge 13 = .ok (.invokestatic 260, 3) := by decide +kernel
theorem dX11_judge_16 : decode cX11_judge 16 = .ok (.ifCond .eq 21, 3) := by decide +kernel
theorem dX11_judge_19 : decode cX11_judge 19 = .ok (.iload_n 3, 1) := by decide +kernel
theorem dX11_judge_20 : decode cX11_judge 20 = .ok (.invokestatic 284, 3) := by decide +kernel
theorem dX11_judge_23 : decode cX11_judge 23 = .ok (.ifCond .eq 14, 3) := by decide +kernel
theorem dX11_judge_26 : decode cX11_judge 26 = .ok (.iload 4, 2) := by decide +kernel
theorem dX11_judge_28 : decode cX11_judge 28 = .ok (.i2l, 1) := by decide +kernel
theorem dX11_judge_29 : decode cX11_judge 29 = .ok (.lconst 0, 1) := by decide +kernel
theorem dX11_judge_30 : decode cX11_judge 30 = .ok (.lconst 1, 1) := by decide +kernel
theorem dX11_judge_31 : decode cX11_judge 31 = .ok (.invokestatic 136, 3) := by decide +kernel
theorem dX11_judge_34 : decode cX11_judge 34 = .ok (.ifCond .ne 7, 3) := by decide +kernel
theorem dX11_judge_37 : decode cX11_judge 37 = .ok (.sipush (-1002), 3) := by decide +kernel
theorem dX11_judge_40 : decode cX11_judge 40 = .ok (.ireturn, 1) := by decide +kernel
theorem dX11_judge_41 : decode cX11_judge 41 = .ok (.aload_n 0, 1) := by decide +kernel
theorem dX11_judge_42 : decode cX11_judge 42 = .ok (.getfield 246, 3) := by decide +kernel
theorem dX11_judge_45 : decode cX11_judge 45 = .ok (.ifCond .eq 18, 3) := by decide +kernel
theorem dX11_judge_48 : decode cX11_judge 48 = .ok (.aload_n 0, 1) := by decide +kernel
theorem dX11_judge_49 : decode cX11_judge 49 = .ok (.getfield 108, 3) := by decide +kernel
theorem dX11_judge_52 : decode cX11_judge 52 = .ok (.iconst 0, 1) := by decide +kernel
theorem dX11_judge_53 : decode cX11_judge 53 = .ok (.iaload, 1) := by decide +kernel
theorem dX11_judge_54 : decode cX11_judge 54 = .ok (.aload_n 0, 1) := by decide +kernel
theorem dX11_judge_55 : decode cX11_judge 55 = .ok (.getfield 48, 3) := by decide +kernel
theorem dX11_judge_58 : decode cX11_judge 58 = .ok (.iload_n 1, 1) := by decide +kernel
theorem dX11_judge_59 : decode cX11_judge 59 = .ok (.iaload, 1) := by decide +kernel
theorem dX11_judge_60 : decode cX11_judge 60 = .ok (.if_icmp .eq 14, 3) := by decide +kernel
theorem dX11_judge_63 : decode cX11_judge 63 = .ok (.iload 4, 2) := by decide +kernel
theorem dX11_judge_65 : decode cX11_judge 65 = .ok (.ifCond .ne 7, 3) := by decide +kernel
theorem dX11_judge_68 : decode cX11_judge 68 = .ok (.iconst 0, 1) := by decide +kernel
theorem dX11_judge_69 : decode cX11_judge 69 = .ok (.goto 4, 3) := by decide +kernel
theorem dX11_judge_72 : decode cX11_judge 72 = .ok (.iload_n 2, 1) := by decide +kernel
theorem dX11_judge_73 : decode cX11_judge 73 = .ok (.ireturn, 1) := by decide +kernel
theorem dX11_judge_74 : decode cX11_judge 74 = .ok (.aload_n 0, 1) := by decide +kernel
theorem dX11_judge_75 : decode cX11_judge 75 = .ok (.iload_n 2, 1) := by decide +kernel
theorem dX11_judge_76 : decode cX11_judge 76 = .ok (.iload_n 3, 1) := by decide +kernel
theorem dX11_judge_77 : decode cX11_judge 77 = .ok (.aload_n 0, 1) := by decide +kernel
theorem dX11_judge_78 : decode cX11_judge 78 = .ok (.getfield 54, 3) := by decide +kernel
theorem dX11_judge_81 : decode cX11_judge 81 = .ok (.iload_n 1, 1) := by decide +kernel
theorem dX11_judge_82 : decode cX11_judge 82 = .ok (.baload, 1) := by decide +kernel
theorem dX11_judge_83 : decode cX11_judge 83 = .ok (.invokevirtual 389, 3) := by decide +kernel
theorem dX11_judge_86 : decode cX11_judge 86 = .ok (.istore 5, 2) := by decide +kernel
theorem dX11_judge_88 : decode cX11_judge 88 = .ok (.iload 4, 2) := by decide +kernel
theorem dX11_judge_90 : decode cX11_judge 90 = .ok (.ifCond .ne 8, 3) := by decide +kernel
theorem dX11_judge_93 : decode cX11_judge 93 = .ok (.iload 5, 2) := by decide +kernel
theorem dX11_judge_95 : decode cX11_judge 95 = .ok (.goto 7, 3) := by decide +kernel
theorem dX11_judge_98 : decode cX11_judge 98 = .ok (.aload_n 0, 1) := by decide +kernel
theorem dX11_judge_99 : decode cX11_judge 99 = .ok (.getfield 375, 3) := by decide +kernel
theorem dX11_judge_102 : decode cX11_judge 102 = .ok (.ireturn, 1) := by decide +kernel
theorem dX11_opensOf_0 : decode cX11_opensOf 0 = .ok (.ldc_w 392, 3) := by decide +kernel
theorem dX11_opensOf_3 : decode cX11_opensOf 3 = .ok (.istore_n 3, 1) := by decide +kernel
theorem dX11_opensOf_4 : decode cX11_opensOf 4 = .ok (.iconst 0, 1) := by decide +kernel
theorem dX11_opensOf_5 : decode cX11_opensOf 5 = .ok (.istore 4, 2) := by decide +kernel
theorem dX11_opensOf_7 : decode cX11_opensOf 7 = .ok (.iload 4, 2) := by decide +kernel
theorem dX11_opensOf_9 : decode cX11_opensOf 9 = .ok (.iload_n 2, 1) := by decide +kernel
theorem dX11_opensOf_10 : decode cX11_opensOf 10 = .ok (.if_icmp .ge 29, 3) := by decide +kernel
theorem dX11_opensOf_13 : decode cX11_opensOf 13 = .ok (.iload_n 3, 1) := by decide +kernel
theorem dX11_opensOf_14 : decode cX11_opensOf 14 = .ok (.i2l, 1) := by decide +kernel
theorem dX11_opensOf_15 : decode cX11_opensOf 15 = .ok (.sipush 1000, 3) := by decide +kernel
theorem dX11_opensOf_18 : decode cX11_opensOf 18 = .ok (.aload_n 0, 1) := by decide +kernel
theorem dX11_opensOf_19 : decode cX11_opensOf 19 = .ok (.getfield 32, 3) := by decide +kernel
theorem dX11_opensOf_22 : decode cX11_opensOf 22 = .ok (.iload_n 1, 1) := by decide +kernel
theorem dX11_opensOf_23 : decode cX11_opensOf 23 = .ok (.iaload, 1) := by decide +kernel
theorem dX11_opensOf_24 : decode cX11_opensOf 24 = .ok (.isub, 1) := by decide +kernel
theorem dX11_opensOf_25 : decode cX11_opensOf 25 = .ok (.i2l, 1) := by decide +kernel
theorem dX11_opensOf_26 : decode cX11_opensOf 26 = .ok (.lmul, 1) := by decide +kernel
theorem dX11_opensOf_27 : decode cX11_opensOf 27 = .ok (.ldc2_w 393, 3) := by decide +kernel
theorem dX11_opensOf_30 : decode cX11_opensOf 30 = .ok (.ldiv, 1) := by decide +kernel
theorem dX11_opensOf_31 : decode cX11_opensOf 31 = .ok (.l2i, 1) := by decide +kernel
theorem dX11_opensOf_32 : decode cX11_opensOf 32 = .ok (.istore_n 3, 1) := by decide +kernel
theorem dX11_opensOf_33 : decode cX11_opensOf 33 = .ok (.iinc 4 1, 3) := by decide +kernel
theorem dX11_opensOf_36 : decode cX11_opensOf 36 = .ok (.goto (-29), 3) := by decide +kernel
theorem dX11_opensOf_39 : decode cX11_opensOf 39 = .ok (.iload_n 3, 1) := by decide +kernel
theorem dX11_opensOf_40 : decode cX11_opensOf 40 = .ok (.ireturn, 1) := by decide +kernel
theorem dX11_opens_0 : decode cX11_opens 0 = .ok (.aload_n 0, 1) := by decide +kernel
theorem dX11_opens_1 : decode cX11_opens 1 = .ok (.iload_n 1, 1) := by decide +kernel
theorem dX11_opens_2 : decode cX11_opens 2 = .ok (.invokevirtual 249, 3) := by decide +kernel
theorem dX11_opens_5 : decode cX11_opens 5 = .ok (.ifCond .ne 7, 3) := by decide +kernel
theorem dX11_opens_8 : decode cX11_opens 8 = .ok (.sipush (-1001), 3) := by decide +kernel
theorem dX11_opens_11 : decode cX11_opens 11 = .ok (.ireturn, 1) := by decide +kernel
theorem dX11_opens_12 : decode cX11_opens 12 = .ok (.iload_n 2, 1) := by decide +kernel
theorem dX11_opens_13 : decode cX11_opens 13 = .ok (.invokestatic 260, 3) := by decide +kernel
theorem dX11_opens_16 : decode cX11_opens 16 = .ok (.ifCond .eq 12, 3) := by decide +kernel
theorem dX11_opens_19 : decode cX11_opens 19 = .ok (.aload_n 0, 1) := by decide +kernel
theorem dX11_opens_20 : decode cX11_opens 20 = .ok (.iload_n 1, 1) := by decide +kernel
theorem dX11_opens_21 : decode cX11_opens 21 = .ok (.iload_n 2, 1) := by decide +kernel
theorem dX11_opens_22 : decode cX11_opens 22 = .ok (.invokevirtual 386, 3) := by decide +kernel
theorem dX11_opens_25 : decode cX11_opens 25 = .ok (.goto 6, 3) := by decide +kernel
theorem dX11_opens_28 : decode cX11_opens 28 = .ok (.sipush (-1002), 3) := by decide +kernel
theorem dX11_opens_31 : decode cX11_opens 31 = .ok (.ireturn, 1) := by decide +kernel
theorem dX11_safe_0 : decode cX11_safe 0 = .ok (.iload_n 1, 1) := by decide +kernel
theorem dX11_safe_1 : decode cX11_safe 1 = .ok (.invokestatic 260, 3) := by decide +kernel
theorem dX11_safe_4 : decode cX11_safe 4 = .ok (.ifCond .eq 10, 3) := by decide +kernel
theorem dX11_safe_7 : decode cX11_safe 7 = .ok (.iload_n 2, 1) := by decide +kernel
theorem dX11_safe_8 : decode cX11_safe 8 = .ok (.invokestatic 284, 3) := by decide +kernel
theorem dX11_safe_11 : decode cX11_safe 11 = .ok (.ifCond .ne 7, 3) := by decide +kernel
theorem dX11_safe_14 : decode cX11_safe 14 = .ok (.sipush (-1002), 3) := by decide +kernel
theorem dX11_safe_17 : decode cX11_safe 17 = .ok (.ireturn, 1) := by decide +kernel
theorem dX11_safe_18 : decode cX11_safe 18 = .ok (.aload_n 0, 1) := by decide +kernel
theorem dX11_safe_19 : decode cX11_safe 19 = .ok (.getfield 246, 3) := by decide +kernel
theorem dX11_safe_22 : decode cX11_safe 22 = .ok (.ifCond .eq 13, 3) := by decide +kernel
theorem dX11_safe_25 : decode cX11_safe 25 = .ok (.aload_n 0, 1) := by decide +kernel
theorem dX11_safe_26 : decode cX11_safe 26 = .ok (.iload_n 1, 1) := by decide +kernel
theorem dX11_safe_27 : decode cX11_safe 27 = .ok (.iload_n 2, 1) := by decide +kernel
theorem dX11_safe_28 : decode cX11_safe 28 = .ok (.iconst 0, 1) := by decide +kernel
theorem dX11_safe_29 : decode cX11_safe 29 = .ok (.invokevirtual 389, 3) := by decide +kernel
theorem dX11_safe_32 : decode cX11_safe 32 = .ok (.ifCond .lt 9, 3) := by decide +kernel
theorem dX11_safe_35 : decode cX11_safe 35 = .ok (.sipush (-1003), 3) := by decide +kernel
theorem dX11_safe_38 : decode cX11_safe 38 = .ok (.goto 8, 3) := by decide +kernel
theorem dX11_safe_41 : decode cX11_safe 41 = .ok (.aload_n 0, 1) := by decide +kernel
theorem dX11_safe_42 : decode cX11_safe 42 = .ok (.getfield 380, 3) := by decide +kernel
theorem dX11_safe_45 : decode cX11_safe 45 = .ok (.l2i, 1) := by decide +kernel
theorem dX11_safe_46 : decode cX11_safe 46 = .ok (.ireturn, 1) := by decide +kernel
theorem dX11_bestFrom_0 : decode cX11_bestFrom 0 = .ok (.iconst 0, 1) := by decide +kernel
theorem dX11_bestFrom_1 : decode cX11_bestFrom 1 = .ok (.istore 4, 2) := by decide +kernel
theorem dX11_bestFrom_3 : decode cX11_bestFrom 3 = .ok (.aload_n 0, 1) := by decide +kernel
theorem dX11_bestFrom_4 : decode cX11_bestFrom 4 = .ok (.getfield 111, 3) := by decide +kernel
theorem dX11_bestFrom_7 : decode cX11_bestFrom 7 = .ok (.iconst 0, 1) := by decide +kernel
theorem dX11_bestFrom_8 : decode cX11_bestFrom 8 = .ok (.iload_n 1, 1) := by decide +kernel
theorem dX11_bestFrom_9 : decode cX11_bestFrom 9 = .ok (.iastore, 1) := by decide +kernel
theorem dX11_bestFrom_10 : decode cX11_bestFrom 10 = .ok (.aload_n 0, 1) := by decide +kernel
theorem dX11_bestFrom_11 : decode cX11_bestFrom 11 = .ok (.getfield 114, 3) := by decide +kernel
theorem dX11_bestFrom_14 : decode cX11_bestFrom 14 = .ok (.iconst 0, 1) := by decide +kernel
theorem dX11_bestFrom_15 : decode cX11_bestFrom 15 = .ok (.iload_n 2, 1) := by decide +kernel
theorem dX11_bestFrom_16 : decode cX11_bestFrom 16 = .ok (.iastore, 1) := by decide +kernel
theorem dX11_bestFrom_17 : decode cX11_bestFrom 17 = .ok (.aload_n 0, 1) := by decide +kernel
theorem dX11_bestFrom_18 : decode cX11_bestFrom 18 = .ok (.getfield 117, 3) := by decide +kernel
theorem dX11_bestFrom_21 : decode cX11_bestFrom 21 = .ok (.iconst 0, 1) := by decide +kernel
theorem dX11_bestFrom_22 : decode cX11_bestFrom 22 = .ok (.ldc2_w 378, 3) := by decide +kernel
theorem dX11_bestFrom_25 : decode cX11_bestFrom 25 = .ok (.lastore, 1) := by decide +kernel
theorem dX11_bestFrom_26 : decode cX11_bestFrom 26 = .ok (.aload_n 0, 1) := by decide +kernel
theorem dX11_bestFrom_27 : decode cX11_bestFrom 27 = .ok (.getfield 121, 3) := by decide +kernel
theorem dX11_bestFrom_30 : decode cX11_bestFrom 30 = .ok (.iconst 0, 1) := by decide +kernel
theorem dX11_bestFrom_31 : decode cX11_bestFrom 31 = .ok (.iconst 0, 1) := by decide +kernel
theorem dX11_bestFrom_32 : decode cX11_bestFrom 32 = .ok (.iastore, 1) := by decide +kernel
theorem dX11_bestFrom_33 : decode cX11_bestFrom 33 = .ok (.iconst 1, 1) := by decide +kernel
theorem dX11_bestFrom_34 : decode cX11_bestFrom 34 = .ok (.iload_n 1, 1) := by decide +kernel
theorem dX11_bestFrom_35 : decode cX11_bestFrom 35 = .ok (.ishl, 1) := by decide +kernel
theorem dX11_bestFrom_36 : decode cX11_bestFrom 36 = .ok (.istore 5, 2) := by decide +kernel
theorem dX11_bestFrom_38 : decode cX11_bestFrom 38 = .ok (.lconst 0, 1) := by decide +kernel
theorem dX11_bestFrom_39 : decode cX11_bestFrom 39 = .ok (.lstore 6, 2) := by decide +kernel
theorem dX11_bestFrom_41 : decode cX11_bestFrom 41 = .ok (.iload 4, 2) := by decide +kernel
theorem dX11_bestFrom_43 : decode cX11_bestFrom 43 = .ok (.ifCond .lt 231, 3) := by decide +kernel
theorem dX11_bestFrom_46 : decode cX11_bestFrom 46 = .ok (.aload_n 0, 1) := by decide +kernel
theorem dX11_bestFrom_47 : decode cX11_bestFrom 47 = .ok (.getfield 111, 3) := by decide +kernel
theorem dX11_bestFrom_50 : decode cX11_bestFrom 50 = .ok (.iload 4, 2) := by decide +kernel
theorem dX11_bestFrom_52 : decode cX11_bestFrom 52 = .ok (.iaload, 1) := by decide +kernel
theorem dX11_bestFrom_53 : decode cX11_bestFrom 53 = .ok (.istore 8, 2) := by decide +kernel
theorem dX11_bestFrom_55 : decode cX11_bestFrom 55 = .ok (.iload 8, 2) := by decide +kernel
theorem dX11_bestFrom_57 : decode cX11_bestFrom 57 = .ok (.aload_n 0, 1) := by decide +kernel
theorem dX11_bestFrom_58 : decode cX11_bestFrom 58 = .ok (.getfield 9, 3) := by decide +kernel
theorem dX11_bestFrom_61 : decode cX11_bestFrom 61 = .ok (.if_icmp .ne 25, 3) := by decide +kernel
theorem dX11_bestFrom_64 : decode cX11_bestFrom 64 = .ok (.aload_n 0, 1) := by decide +kernel
theorem dX11_bestFrom_65 : decode cX11_bestFrom 65 = .ok (.getfield 117, 3) := by decide +kernel
theorem dX11_bestFrom_68 : decode cX11_bestFrom 68 = .ok (.iload 4, 2) := by decide +kernel
theorem dX11_bestFrom_70 : decode cX11_bestFrom 70 = .ok (.laload, 1) := by decide +kernel
theorem dX11_bestFrom_71 : decode cX11_bestFrom 71 = .ok (.lload 6, 2) := by decide +kernel
theorem dX11_bestFrom_73 : decode cX11_bestFrom 73 = .ok (.lcmp, 1) := by decide +kernel
theorem dX11_bestFrom_74 : decode cX11_bestFrom 74 = .ok (.ifCond .le 12, 3) := by decide +kernel
theorem dX11_bestFrom_77 : decode cX11_bestFrom 77 = .ok (.aload_n 0, 1) := by decide +kernel
theorem dX11_bestFrom_78 : decode cX11_bestFrom 78 = .ok (.getfield 117, 3) := by decide +kernel
theorem dX11_bestFrom_81 : decode cX11_bestFrom 81 = .ok (.iload 4, 2) := by decide +kernel
theorem dX11_bestFrom_83 : decode cX11_bestFrom 83 = .ok (.laload, 1) := by decide +kernel
theorem dX11_bestFrom_84 : decode cX11_bestFrom 84 = .ok (.lstore 6, 2) := by decide +kernel
theorem dX11_bestFrom_86 : decode cX11_bestFrom 86 = .ok (.aload_n 0, 1) := by decide +kernel
theorem dX11_bestFrom_87 : decode cX11_bestFrom 87 = .ok (.getfield 121, 3) := by decide +kernel
theorem dX11_bestFrom_90 : decode cX11_bestFrom 90 = .ok (.iload 4, 2) := by decide +kernel
theorem dX11_bestFrom_92 : decode cX11_bestFrom 92 = .ok (.iaload, 1) := by decide +kernel
theorem dX11_bestFrom_93 : decode cX11_bestFrom 93 = .ok (.istore 9, 2) := by decide +kernel
theorem dX11_bestFrom_95 : decode cX11_bestFrom 95 = .ok (.iload 8, 2) := by decide +kernel
theorem dX11_bestFrom_97 : decode cX11_bestFrom 97 = .ok (.aload_n 0, 1) := by decide +kernel
theorem dX11_bestFrom_98 : decode cX11_bestFrom 98 = .ok (.getfield 9, 3) := by decide +kernel
theorem dX11_bestFrom_101 : decode cX11_bestFrom 101 = .ok (.if_icmp .eq 19, 3) := by decide +kernel
theorem dX11_bestFrom_104 : decode cX11_bestFrom 104 = .ok (.iload 4, 2) := by decide +kernel
theorem dX11_bestFrom_106 : decode cX11_bestFrom 106 = .ok (.bipush 6, 2) := by decide +kernel
theorem dX11_bestFrom_108 : decode cX11_bestFrom 108 = .ok (.if_icmp .eq 12, 3) := by decide +kernel
theorem dX11_bestFrom_111 : decode cX11_bestFrom 111 = .ok (.iload 9, 2) := by decide +kernel
theorem dX11_bestFrom_113 : decode cX11_bestFrom 113 = .ok (.aload_n 0, 1) := by decide +kernel
theorem dX11_bestFrom_114 : decode cX11_bestFrom 114 = .ok (.getfield 133, 3) := by decide +kernel
theorem dX11_bestFrom_117 : decode cX11_bestFrom 117 = .ok (.if_icmp .ne 20, 3) := by decide +kernel
theorem dX11_bestFrom_120 : decode cX11_bestFrom 120 = .ok (.iload 5, 2) := by decide +kernel
theorem dX11_bestFrom_122 : decode cX11_bestFrom 122 = .ok (.iconst 1, 1) := by decide +kernel
theorem dX11_bestFrom_123 : decode cX11_bestFrom 123 = .ok (.iload 8, 2) := by decide +kernel
theorem dX11_bestFrom_125 : decode cX11_bestFrom 125 = .ok (.ishl, 1) := by decide +kernel
theorem dX11_bestFrom_126 : decode cX11_bestFrom 126 = .ok (.iconst (-1), 1) := by decide +kernel
theorem dX11_bestFrom_127 : decode cX11_bestFrom 127 = .ok (.ixor, 1) := by decide +kernel
theorem dX11_bestFrom_128 : decode cX11_bestFrom 128 = .ok (.iand, 1) := by decide +kernel
theorem dX11_bestFrom_129 : decode cX11_bestFrom 129 = .ok (.istore 5, 2) := by decide +kernel
theorem dX11_bestFrom_131 : decode cX11_bestFrom 131 = .ok (.iinc 4 (-1), 3) := by decide +kernel
theorem dX11_bestFrom_134 : decode cX11_bestFrom 134 = .ok (.goto 137, 3) := by decide +kernel
theorem dX11_bestFrom_137 : decode cX11_bestFrom 137 = .ok (.aload_n 0, 1) := by decide +kernel
theorem dX11_bestFrom_138 : decode cX11_bestFrom 138 = .ok (.getfield 121, 3) := by decide +kernel
theorem dX11_bestFrom_141 : decode cX11_bestFrom 141 = .ok (.iload 4, 2) := by decide +kernel
theorem dX11_bestFrom_143 : decode cX11_bestFrom 143 = .ok (.dup2, 1) := by decide +kernel
theorem dX11_bestFrom_144 : decode cX11_bestFrom 144 = .ok (.iaload, 1) := by decide +kernel
theorem dX11_bestFrom_145 : decode cX11_bestFrom 145 = .ok (.iconst 1, 1) := by decide +kernel
theorem dX11_bestFrom_146 : decode cX11_bestFrom 146 = .ok (.iadd, 1) := by decide +kernel
theorem dX11_bestFrom_147 : decode cX11_bestFrom 147 = .ok (.iastore, 1) := by decide +kernel
theorem dX11_bestFrom_148 : decode cX11_bestFrom 148 = .ok (.iload 5, 2) := by decide +kernel
theorem dX11_bestFrom_150 : decode cX11_bestFrom 150 = .ok (.iload 9, 2) := by decide +kernel
theorem dX11_bestFrom_152 : decode cX11_bestFrom 152 = .ok (.invokestatic 346, 3) := by decide +kernel
theorem dX11_bestFrom_155 : decode cX11_bestFrom 155 = .ok (.ifCond .eq 7, 3) := by decide +kernel
theorem dX11_bestFrom_158 : decode cX11_bestFrom 158 = .ok (.iconst (-1), 1) := by decide +kernel
theorem dX11_bestFrom_159 : decode cX11_bestFrom 159 = .ok (.goto 20, 3) := by decide +kernel
theorem dX11_bestFrom_162 : decode cX11_bestFrom 162 = .ok (.aload_n 0, 1) := by decide +kernel
theorem dX11_bestFrom_163 : decode cX11_bestFrom 163 = .ok (.iload 8, 2) := by decide +kernel
theorem dX11_bestFrom_165 : decode cX11_bestFrom 165 = .ok (.iload 9, 2) := by decide +kernel
theorem dX11_bestFrom_167 : decode cX11_bestFrom 167 = .ok (.aload_n 0, 1) := by decide +kernel
theorem dX11_bestFrom_168 : decode cX11_bestFrom 168 = .ok (.getfield 114, 3) := by decide +kernel
theorem dX11_bestFrom_171 : decode cX11_bestFrom 171 = .ok (.iload 4, 2) := by decide +kernel
theorem dX11_bestFrom_173 : decode cX11_bestFrom 173 = .ok (.iaload, 1) := by decide +kernel
theorem dX11_bestFrom_174 : decode cX11_bestFrom 174 = .ok (.iload_n 3, 1) := by decide +kernel
theorem dX11_bestFrom_175 : decode cX11_bestFrom 175 = .ok (.iconst 0, 1) := by decide +kernel
theorem dX11_bestFrom_176 : decode cX11_bestFrom 176 = .ok (.invokevirtual 383, 3) := by decide +kernel
theorem dX11_bestFrom_179 : decode cX11_bestFrom 179 = .ok (.istore 10, 2) := by decide +kernel
theorem dX11_bestFrom_181 : decode cX11_bestFrom 181 = .ok (.iload 10, 2) := by decide +kernel
theorem dX11_bestFrom_183 : decode cX11_bestFrom 183 = .ok (.ifCond .lt 88, 3) := by decide +kernel
theorem dX11_bestFrom_186 : decode cX11_bestFrom 186 = .ok (.aload_n 0, 1) := by decide +kernel
theorem dX11_bestFrom_187 : decode cX11_bestFrom 187 = .ok (.iload 10, 2) := by decide +kernel
theorem dX11_bestFrom_189 : decode cX11_bestFrom 189 = .ok (.aload_n 0, 1) := by decide +kernel
theorem dX11_bestFrom_190 : decode cX11_bestFrom 190 = .ok (.getfield 114, 3) := by decide +kernel
theorem dX11_bestFrom_193 : decode cX11_bestFrom 193 = .ok (.iload 4, 2) := by decide +kernel
theorem dX11_bestFrom_195 : decode cX11_bestFrom 195 = .ok (.iaload, 1) := by decide +kernel
theorem dX11_bestFrom_196 : decode cX11_bestFrom 196 = .ok (.iload_n 3, 1) := by decide +kernel
theorem dX11_bestFrom_197 : decode cX11_bestFrom 197 = .ok (.iconst 0, 1) := by decide +kernel
theorem dX11_bestFrom_198 : decode cX11_bestFrom 198 = .ok (.invokevirtual 276, 3) := by decide +kernel
theorem dX11_bestFrom_201 : decode cX11_bestFrom 201 = .ok (.istore 11, 2) := by decide +kernel
theorem dX11_bestFrom_203 : decode cX11_bestFrom 203 = .ok (.aload_n 0, 1) := by decide +kernel
theorem dX11_bestFrom_204 : decode cX11_bestFrom 204 = .ok (.getfield 117, 3) := by decide +kernel
theorem dX11_bestFrom_207 : decode cX11_bestFrom 207 = .ok (.iload 4, 2) := by decide +kernel
theorem dX11_bestFrom_209 : decode cX11_bestFrom 209 = .ok (.iconst 1, 1) := by decide +kernel
theorem dX11_bestFrom_210 : decode cX11_bestFrom 210 = .ok (.iadd, 1) := by decide +kernel
theorem dX11_bestFrom_211 : decode cX11_bestFrom 211 = .ok (.aload_n 0, 1) := by decide +kernel
theorem dX11_bestFrom_212 : decode cX11_bestFrom 212 = .ok (.getfield 117, 3) := by decide +kernel
theorem dX11_bestFrom_215 : decode cX11_bestFrom 215 = .ok (.iload 4, 2) := by decide +kernel
theorem dX11_bestFrom_217 : decode cX11_bestFrom 217 = .ok (.laload, 1) := by decide +kernel
theorem dX11_bestFrom_218 : decode cX11_bestFrom 218 = .ok (.aload_n 0, 1) := by decide +kernel
theorem dX11_bestFrom_219 : decode cX11_bestFrom 219 = .ok (.iload 10, 2) := by decide +kernel
theorem dX11_bestFrom_221 : decode cX11_bestFrom 221 = .ok (.iload 11, 2) := by decide +kernel
theorem dX11_bestFrom_223 : decode cX11_bestFrom 223 = .ok (.invokevirtual 386, 3) := by decide +kernel
theorem dX11_bestFrom_226 : decode cX11_bestFrom 226 = .ok (.i2l, 1) := by decide +kernel
theorem dX11_bestFrom_227 : decode cX11_bestFrom 227 = .ok (.lmul, 1) := by decide +kernel
theorem dX11_bestFrom_228 : decode cX11_bestFrom 228 = .ok (.ldc2_w 378, 3) := by decide +kernel
theorem dX11_bestFrom_231 : decode cX11_bestFrom 231 = .ok (.ldiv, 1) := by decide +kernel
theorem dX11_bestFrom_232 : decode cX11_bestFrom 232 = .ok (.lastore, 1) := by decide +kernel
theorem dX11_bestFrom_233 : decode cX11_bestFrom 233 = .ok (.iinc 4 1, 3) := by decide +kernel
theorem dX11_bestFrom_236 : decode cX11_bestFrom 236 = .ok (.aload_n 0, 1) := by decide +kernel
theorem dX11_bestFrom_237 : decode cX11_bestFrom 237 = .ok (.getfield 111, 3) := by decide +kernel
theorem dX11_bestFrom_240 : decode cX11_bestFrom 240 = .ok (.iload 4, 2) := by decide +kernel
theorem dX11_bestFrom_242 : decode cX11_bestFrom 242 = .ok (.iload 9, 2) := by decide +kernel
theorem dX11_bestFrom_244 : decode cX11_bestFrom 244 = .ok (.iastore, 1) := by decide +kernel
theorem dX11_bestFrom_245 : decode cX11_bestFrom 245 = .ok (.aload_n 0, 1) := by decide +kernel
theorem dX11_bestFrom_246 : decode cX11_bestFrom 246 = .ok (.getfield 114, 3) := by decide +kernel
theorem dX11_bestFrom_249 : decode cX11_bestFrom 249 = .ok (.iload 4, 2) := by decide +kernel
theorem dX11_bestFrom_251 : decode cX11_bestFrom 251 = .ok (.iload 11, 2) := by decide +kernel
theorem dX11_bestFrom_253 : decode cX11_bestFrom 253 = .ok (.iastore, 1) := by decide +kernel
theorem dX11_bestFrom_254 : decode cX11_bestFrom 254 = .ok (.aload_n 0, 1) := by decide +kernel
theorem dX11_bestFrom_255 : decode cX11_bestFrom 255 = .ok (.getfield 121, 3) := by decide +kernel
theorem dX11_bestFrom_258 : decode cX11_bestFrom 258 = .ok (.iload 4, 2) := by decide +kernel
theorem dX11_bestFrom_260 : decode cX11_bestFrom 260 = .ok (.iconst 0, 1) := by decide +kernel
theorem dX11_bestFrom_261 : decode cX11_bestFrom 261 = .ok (.iastore, 1) := by decide +kernel
theorem dX11_bestFrom_262 : decode cX11_bestFrom 262 = .ok (.iload 5, 2) := by decide +kernel
theorem dX11_bestFrom_264 : decode cX11_bestFrom 264 = .ok (.iconst 1, 1) := by decide +kernel
theorem dX11_bestFrom_265 : decode cX11_bestFrom 265 = .ok (.iload 9, 2) := by decide +kernel
theorem dX11_bestFrom_267 : decode cX11_bestFrom 267 = .ok (.ishl, 1) := by decide +kernel
theorem dX11_bestFrom_268 : decode cX11_bestFrom 268 = .ok (.ior, 1) := by decide +kernel
theorem dX11_bestFrom_269 : decode cX11_bestFrom 269 = .ok (.istore 5, 2) := by decide +kernel
theorem dX11_bestFrom_271 : decode cX11_bestFrom 271 = .ok (.goto (-230), 3) := by decide +kernel
theorem dX11_bestFrom_274 : decode cX11_bestFrom 274 = .ok (.lload 6, 2) := by decide +kernel
theorem dX11_bestFrom_276 : decode cX11_bestFrom 276 = .ok (.l2i, 1) := by decide +kernel
theorem dX11_bestFrom_277 : decode cX11_bestFrom 277 = .ok (.ireturn, 1) := by decide +kernel
theorem dX11_safest_0 : decode cX11_safest 0 = .ok (.aload_n 0, 1) := by decide +kernel
theorem dX11_safest_1 : decode cX11_safest 1 = .ok (.iload_n 1, 1) := by decide +kernel
theorem dX11_safest_2 : decode cX11_safest 2 = .ok (.invokevirtual 257, 3) := by decide +kernel
theorem dX11_safest_5 : decode cX11_safest 5 = .ok (.ifCond .ne 7, 3) := by decide +kernel
theorem dX11_safest_8 : decode cX11_safest 8 = .ok (.sipush (-1001), 3) := by decide +kernel
theorem dX11_safest_11 : decode cX11_safest 11 = .ok (.ireturn, 1) := by decide +kernel
theorem dX11_safest_12 : decode cX11_safest 12 = .ok (.iload_n 2, 1) := by decide +kernel
theorem dX11_safest_13 : decode cX11_safest 13 = .ok (.invokestatic 260, 3) := by decide +kernel
theorem dX11_safest_16 : decode cX11_safest 16 = .ok (.ifCond .eq 20, 3) := by decide +kernel
theorem dX11_safest_19 : decode cX11_safest 19 = .ok (.iload_n 3, 1) := by decide +kernel
theorem dX11_safest_20 : decode cX11_safest 20 = .ok (.invokestatic 284, 3) := by decide +kernel
theorem dX11_safest_23 : decode cX11_safest 23 = .ok (.ifCond .eq 13, 3) := by decide +kernel
theorem dX11_safest_26 : decode cX11_safest 26 = .ok (.aload_n 0, 1) := by decide +kernel
theorem dX11_safest_27 : decode cX11_safest 27 = .ok (.iload_n 1, 1) := by decide +kernel
theorem dX11_safest_28 : decode cX11_safest 28 = .ok (.iload_n 2, 1) := by decide +kernel
theorem dX11_safest_29 : decode cX11_safest 29 = .ok (.iload_n 3, 1) := by decide +kernel
theorem dX11_safest_30 : decode cX11_safest 30 = .ok (.invokevirtual 395, 3) := by decide +kernel
theorem dX11_safest_33 : decode cX11_safest 33 = .ok (.goto 6, 3) := by decide +kernel
theorem dX11_safest_36 : decode cX11_safest 36 = .ok (.sipush (-1002), 3) := by decide +kernel
theorem dX11_safest_39 : decode cX11_safest 39 = .ok (.ireturn, 1) := by decide +kernel
theorem dX11_knock_0 : decode cX11_knock 0 = .ok (.aload_n 0, 1) := by decide +kernel
theorem dX11_knock_1 : decode cX11_knock 1 = .ok (.iload_n 1, 1) := by decide +kernel
theorem dX11_knock_2 : decode cX11_knock 2 = .ok (.invokevirtual 257, 3) := by decide +kernel
theorem dX11_knock_5 : decode cX11_knock 5 = .ok (.ifCond .ne 7, 3) := by decide +kernel
theorem dX11_knock_8 : decode cX11_knock 8 = .ok (.sipush (-1001), 3) := by decide +kernel
theorem dX11_knock_11 : decode cX11_knock 11 = .ok (.ireturn, 1) := by decide +kernel
theorem dX11_knock_12 : decode cX11_knock 12 = .ok (.iload_n 2, 1) := by decide +kernel
theorem dX11_knock_13 : decode cX11_knock 13 = .ok (.i2l, 1) := by decide +kernel
theorem dX11_knock_14 : decode cX11_knock 14 = .ok (.lconst 0, 1) := by decide +kernel
theorem dX11_knock_15 : decode cX11_knock 15 = .ok (.ldc2_w 393, 3) := by decide +kernel
theorem dX11_knock_18 : decode cX11_knock 18 = .ok (.invokestatic 136, 3) := by decide +kernel
theorem dX11_knock_21 : decode cX11_knock 21 = .ok (.ifCond .ne 7, 3) := by decide +kernel
theorem dX11_knock_24 : decode cX11_knock 24 = .ok (.sipush (-1002), 3) := by decide +kernel
theorem dX11_knock_27 : decode cX11_knock 27 = .ok (.ireturn, 1) := by decide +kernel
theorem dX11_knock_28 : decode cX11_knock 28 = .ok (.iconst 0, 1) := by decide +kernel
theorem dX11_knock_29 : decode cX11_knock 29 = .ok (.istore_n 3, 1) := by decide +kernel
theorem dX11_knock_30 : decode cX11_knock 30 = .ok (.iload_n 3, 1) := by decide +kernel
theorem dX11_knock_31 : decode cX11_knock 31 = .ok (.aload_n 0, 1) := by decide +kernel
theorem dX11_knock_32 : decode cX11_knock 32 = .ok (.getfield 133, 3) := by decide +kernel
theorem dX11_knock_35 : decode cX11_knock 35 = .ok (.if_icmp .ge 27, 3) := by decide +kernel
theorem dX11_knock_38 : decode cX11_knock 38 = .ok (.aload_n 0, 1) := by decide +kernel
theorem dX11_knock_39 : decode cX11_knock 39 = .ok (.getfield 124, 3) := by decide +kernel
theorem dX11_knock_42 : decode cX11_knock 42 = .ok (.iload_n 3, 1) := by decide +kernel
theorem dX11_knock_43 : decode cX11_knock 43 = .ok (.iload_n 3, 1) := by decide +kernel
theorem dX11_knock_44 : decode cX11_knock 44 = .ok (.iload_n 1, 1) := by decide +kernel
theorem dX11_knock_45 : decode cX11_knock 45 = .ok (.if_icmp .ne 9, 3) := by decide +kernel
theorem dX11_knock_48 : decode cX11_knock 48 = .ok (.sipush 1000, 3) := by decide +kernel
theorem dX11_knock_51 : decode cX11_knock 51 = .ok (.goto 4, 3) := by decide +kernel
theorem dX11_knock_54 : decode cX11_knock 54 = .ok (.iconst (-1), 1) := by decide +kernel
theorem dX11_knock_55 : decode cX11_knock 55 = .ok (.iastore, 1) := by decide +kernel
theorem dX11_knock_56 : decode cX11_knock 56 = .ok (.iinc 3 1, 3) := by decide +kernel
theorem dX11_knock_59 : decode cX11_knock 59 = .ok (.goto (-29), 3) := by decide +kernel
theorem dX11_knock_62 : decode cX11_knock 62 = .ok (.sipush 1000, 3) := by decide +kernel
theorem dX11_knock_65 : decode cX11_knock 65 = .ok (.istore_n 3, 1) := by decide +kernel
theorem dX11_knock_66 : decode cX11_knock 66 = .ok (.iconst 1, 1) := by decide +kernel
theorem dX11_knock_67 : decode cX11_knock 67 = .ok (.iload_n 1, 1) := by decide +kernel
theorem dX11_knock_68 : decode cX11_knock 68 = .ok (.ishl, 1) := by decide +kernel
theorem dX11_knock_69 : decode cX11_knock 69 = .ok (.istore 4, 2) := by decide +kernel
theorem dX11_knock_71 : decode cX11_knock 71 = .ok (.iconst 1, 1) := by decide +kernel
theorem dX11_knock_72 : decode cX11_knock 72 = .ok (.istore 5, 2) := by decide +kernel
theorem dX11_knock_74 : decode cX11_knock 74 = .ok (.iload 5, 2) := by decide +kernel
theorem dX11_knock_76 : decode cX11_knock 76 = .ok (.aload_n 0, 1) := by decide +kernel
theorem dX11_knock_77 : decode cX11_knock 77 = .ok (.getfield 133, 3) := by decide +kernel
theorem dX11_knock_80 : decode cX11_knock 80 = .ok (.if_icmp .ge 176, 3) := by decide +kernel
theorem dX11_knock_83 : decode cX11_knock 83 = .ok (.iload_n 3, 1) := by decide +kernel
theorem dX11_knock_84 : decode cX11_knock 84 = .ok (.iload_n 2, 1) := by decide +kernel
theorem dX11_knock_85 : decode cX11_knock 85 = .ok (.imul, 1) := by decide +kernel
theorem dX11_knock_86 : decode cX11_knock 86 = .ok (.sipush 1000, 3) := by decide +kernel
theorem dX11_knock_89 : decode cX11_knock 89 = .ok (.idiv, 1) := by decide +kernel
theorem dX11_knock_90 : decode cX11_knock 90 = .ok (.istore_n 3, 1) := by decide +kernel
theorem dX11_knock_91 : decode cX11_knock 91 = .ok (.iconst 0, 1) := by decide +kernel
theorem dX11_knock_92 : decode cX11_knock 92 = .ok (.istore 6, 2) := by decide +kernel
theorem dX11_knock_94 : decode cX11_knock 94 = .ok (.iconst 0, 1) := by decide +kernel
theorem dX11_knock_95 : decode cX11_knock 95 = .ok (.istore 7, 2) := by decide +kernel
theorem dX11_knock_97 : decode cX11_knock 97 = .ok (.iload 7, 2) := by decide +kernel
theorem dX11_knock_99 : decode cX11_knock 99 = .ok (.aload_n 0, 1) := by decide +kernel
theorem dX11_knock_100 : decode cX11_knock 100 = .ok (.getfield 140, 3) := by decide +kernel
theorem dX11_knock_103 : decode cX11_knock 103 = .ok (.if_icmp .ge 85, 3) := by decide +kernel
theorem dX11_knock_106 : decode cX11_knock 106 = .ok (.aload_n 0, 1) := by decide +kernel
theorem dX11_knock_107 : decode cX11_knock 107 = .ok (.getfield 35, 3) := by decide +kernel
theorem dX11_knock_110 : decode cX11_knock 110 = .ok (.iload 7, 2) := by decide +kernel
theorem dX11_knock_112 : decode cX11_knock 112 = .ok (.baload, 1) := by decide +kernel
theorem dX11_knock_113 : decode cX11_knock 113 = .ok (.ifCond .ne 69, 3) := by decide +kernel
theorem dX11_knock_116 : decode cX11_knock 116 = .ok (.iload 6, 2) := by decide +kernel
theorem dX11_knock_118 : decode cX11_knock 118 = .ok (.iload 4, 2) := by decide +kernel
theorem dX11_knock_120 : decode cX11_knock 120 = .ok (.aload_n 0, 1) := by decide +kernel
theorem dX11_knock_121 : decode cX11_knock 121 = .ok (.getfield 13, 3) := by decide +kernel
theorem dX11_knock_124 : decode cX11_knock 124 = .ok (.iload 7, 2) := by decide +kernel
theorem dX11_knock_126 : decode cX11_knock 126 = .ok (.iaload, 1) := by decide +kernel
theorem dX11_knock_127 : decode cX11_knock 127 = .ok (.invokestatic 346, 3) := by decide +kernel
theorem dX11_knock_130 : decode cX11_knock 130 = .ok (.ifCond .eq 15, 3) := by decide +kernel
theorem dX11_knock_133 : decode cX11_knock 133 = .ok (.iconst 1, 1) := by decide +kernel
theorem dX11_knock_134 : decode cX11_knock 134 = .ok (.aload_n 0, 1) := by decide +kernel
theorem dX11_knock_135 : decode cX11_knock 135 = .ok (.getfield 17, 3) := by decide +kernel
theorem dX11_knock_138 : decode cX11_knock 138 = .ok (.iload 7, 2) := by decide +kernel
theorem dX11_knock_140 : decode cX11_knock 140 = .ok (.iaload, 1) := by decide +kernel
theorem dX11_knock_141 : decode cX11_knock 141 = .ok (.ishl, 1) := by decide +kernel
theorem dX11_knock_142 : decode cX11_knock 142 = .ok (.goto 4, 3) := by decide +kernel
theorem dX11_knock_145 : decode cX11_knock 145 = .ok (.iconst 0, 1) := by decide +kernel
theorem dX11_knock_146 : decode cX11_knock 146 = .ok (.ior, 1) := by decide +kernel
theorem dX11_knock_147 : decode cX11_knock 147 = .ok (.istore 6, 2) := by decide +kernel
theorem dX11_knock_149 : decode cX11_knock 149 = .ok (.iload 6, 2) := by decide +kernel
theorem dX11_knock_151 : decode cX11_knock 151 = .ok (.iload 4, 2) := by decide +kernel
theorem dX11_knock_153 : decode cX11_knock 153 = .ok (.aload_n 0, 1) := by decide +kernel
theorem dX11_knock_154 : decode cX11_knock 154 = .ok (.getfield 17, 3) := by decide +kernel
theorem dX11_knock_157 : decode cX11_knock 157 = .ok (.iload 7, 2) := by decide +kernel
theorem dX11_knock_159 : decode cX11_knock 159 = .ok (.iaload, 1) := by decide +kernel
theorem dX11_knock_160 : decode cX11_knock 160 = .ok (.invokestatic 346, 3) := by decide +kernel
theorem dX11_knock_163 : decode cX11_knock 163 = .ok (.ifCond .eq 15, 3) := by decide +kernel
theorem dX11_knock_166 : decode cX11_knock 166 = .ok (.iconst 1, 1) := by decide +kernel
theorem dX11_knock_167 : decode cX11_knock 167 = .ok (.aload_n 0, 1) := by decide +kernel
theorem dX11_knock_168 : decode cX11_knock 168 = .ok (.getfield 13, 3) := by decide +kernel
theorem dX11_knock_171 : decode cX11_knock 171 = .ok (.iload 7, 2) := by decide +kernel
theorem dX11_knock_173 : decode cX11_knock 173 = .ok (.iaload, 1) := by decide +kernel
theorem dX11_knock_174 : decode cX11_knock 174 = .ok (.ishl, 1) := by decide +kernel
theorem dX11_knock_175 : decode cX11_knock 175 = .ok (.goto 4, 3) := by decide +kernel
theorem dX11_knock_178 : decode cX11_knock 178 = .ok (.iconst 0, 1) := by decide +kernel
theorem dX11_knock_179 : decode cX11_knock 179 = .ok (.ior, 1) := by decide +kernel
theorem dX11_knock_180 : decode cX11_knock 180 = .ok (.istore 6, 2) := by decide +kernel
theorem dX11_knock_182 : decode cX11_knock 182 = .ok (.iinc 7 1, 3) := by decide +kernel
theorem dX11_knock_185 : decode cX11_knock 185 = .ok (.goto (-88), 3) := by decide +kernel
theorem dX11_knock_188 : decode cX11_knock 188 = .ok (.iload 6, 2) := by decide +kernel
theorem dX11_knock_190 : decode cX11_knock 190 = .ok (.iload 4, 2) := by decide +kernel
theorem dX11_knock_192 : decode cX11_knock 192 = .ok (.iconst (-1), 1) := by decide +kernel
theorem dX11_knock_193 : decode cX11_knock 193 = .ok (.ixor, 1) := by decide +kernel
theorem dX11_knock_194 : decode cX11_knock 194 = .ok (.iand, 1) := by decide +kernel
theorem dX11_knock_195 : decode cX11_knock 195 = .ok (.istore 6, 2) := by decide +kernel
theorem dX11_knock_197 : decode cX11_knock 197 = .ok (.iconst 0, 1) := by decide +kernel
theorem dX11_knock_198 : decode cX11_knock 198 = .ok (.istore 7, 2) := by decide +kernel
theorem dX11_knock_200 : decode cX11_knock 200 = .ok (.iload 7, 2) := by decide +kernel
theorem dX11_knock_202 : decode cX11_knock 202 = .ok (.aload_n 0, 1) := by decide +kernel
theorem dX11_knock_203 : decode cX11_knock 203 = .ok (.getfield 133, 3) := by decide +kernel
theorem dX11_knock_206 : decode cX11_knock 206 = .ok (.if_icmp .ge 37, 3) := by decide +kernel
theorem dX11_knock_209 : decode cX11_knock 209 = .ok (.aload_n 0, 1) := by decide +kernel
theorem dX11_knock_210 : decode cX11_knock 210 = .ok (.getfield 124, 3) := by decide +kernel
theorem dX11_knock_213 : decode cX11_knock 213 = .ok (.iload 7, 2) := by decide +kernel
theorem dX11_knock_215 : decode cX11_knock 215 = .ok (.iload 6, 2) := by decide +kernel
theorem dX11_knock_217 : decode cX11_knock 217 = .ok (.iload 7, 2) := by decide +kernel
theorem dX11_knock_219 : decode cX11_knock 219 = .ok (.invokestatic 346, 3) := by decide +kernel
theorem dX11_knock_222 : decode cX11_knock 222 = .ok (.ifCond .eq 7, 3) := by decide +kernel
theorem dX11_knock_225 : decode cX11_knock 225 = .ok (.iload_n 3, 1) := by decide +kernel
theorem dX11_knock_226 : decode cX11_knock 226 = .ok (.goto 10, 3) := by decide +kernel
theorem dX11_knock_229 : decode cX11_knock 229 = .ok (.aload_n 0, 1) := by decide +kernel
theorem dX11_knock_230 : decode cX11_knock 230 = .ok (.getfield 124, 3) := by decide +kernel
theorem dX11_knock_233 : decode cX11_knock 233 = .ok (.iload 7, 2) := by decide +kernel
theorem dX11_knock_235 : decode cX11_knock 235 = .ok (.iaload, 1) := by decide +kernel
theorem dX11_knock_236 : decode cX11_knock 236 = .ok (.iastore, 1) := by decide +kernel
theorem dX11_knock_237 : decode cX11_knock 237 = .ok (.iinc 7 1, 3) := by decide +kernel
theorem dX11_knock_240 : decode cX11_knock 240 = .ok (.goto (-40), 3) := by decide +kernel
theorem dX11_knock_243 : decode cX11_knock 243 = .ok (.iload 4, 2) := by decide +kernel
theorem dX11_knock_245 : decode cX11_knock 245 = .ok (.iload 6, 2) := by decide +kernel
theorem dX11_knock_247 : decode cX11_knock 247 = .ok (.ior, 1) := by decide +kernel
theorem dX11_knock_248 : decode cX11_knock 248 = .ok (.istore 4, 2) := by decide +kernel
theorem dX11_knock_250 : decode cX11_knock 250 = .ok (.iinc 5 1, 3) := by decide +kernel
theorem dX11_knock_253 : decode cX11_knock 253 = .ok (.goto (-179), 3) := by decide +kernel
theorem dX11_knock_256 : decode cX11_knock 256 = .ok (.iconst 0, 1) := by decide +kernel
theorem dX11_knock_257 : decode cX11_knock 257 = .ok (.istore 5, 2) := by decide +kernel
theorem dX11_knock_259 : decode cX11_knock 259 = .ok (.iconst 0, 1) := by decide +kernel
theorem dX11_knock_260 : decode cX11_knock 260 = .ok (.istore 6, 2) := by decide +kernel
theorem dX11_knock_262 : decode cX11_knock 262 = .ok (.iload 6, 2) := by decide +kernel
theorem dX11_knock_264 : decode cX11_knock 264 = .ok (.aload_n 0, 1) := by decide +kernel
theorem dX11_knock_265 : decode cX11_knock 265 = .ok (.getfield 240, 3) := by decide +kernel
theorem dX11_knock_268 : decode cX11_knock 268 = .ok (.if_icmp .ge 55, 3) := by decide +kernel
theorem dX11_knock_271 : decode cX11_knock 271 = .ok (.iload 5, 2) := by decide +kernel
theorem dX11_knock_273 : decode cX11_knock 273 = .ok (.aload_n 0, 1) := by decide +kernel
theorem dX11_knock_274 : decode cX11_knock 274 = .ok (.getfield 51, 3) := by decide +kernel
theorem dX11_knock_277 : decode cX11_knock 277 = .ok (.iload 6, 2) := by decide +kernel
theorem dX11_knock_279 : decode cX11_knock 279 = .ok (.baload, 1) := by decide +kernel
theorem dX11_knock_280 : decode cX11_knock 280 = .ok (.ifCond .ne 33, 3) := by decide +kernel
theorem dX11_knock_283 : decode cX11_knock 283 = .ok (.aload_n 0, 1) := by decide +kernel
theorem dX11_knock_284 : decode cX11_knock 284 = .ok (.getfield 124, 3) := by decide +kernel
theorem dX11_knock_287 : decode cX11_knock 287 = .ok (.aload_n 0, 1) := by decide +kernel
theorem dX11_knock_288 : decode cX11_knock 288 = .ok (.getfield 48, 3) := by decide +kernel
theorem dX11_knock_291 : decode cX11_knock 291 = .ok (.iload 6, 2) := by decide +kernel
theorem dX11_knock_293 : decode cX11_knock 293 = .ok (.iaload, 1) := by decide +kernel
theorem dX11_knock_294 : decode cX11_knock 294 = .ok (.iaload, 1) := by decide +kernel
theorem dX11_knock_295 : decode cX11_knock 295 = .ok (.ifCond .le 18, 3) := by decide +kernel
theorem dX11_knock_298 : decode cX11_knock 298 = .ok (.aload_n 0, 1) := by decide +kernel
theorem dX11_knock_299 : decode cX11_knock 299 = .ok (.getfield 124, 3) := by decide +kernel
theorem dX11_knock_302 : decode cX11_knock 302 = .ok (.aload_n 0, 1) := by decide +kernel
theorem dX11_knock_303 : decode cX11_knock 303 = .ok (.getfield 48, 3) := by decide +kernel
theorem dX11_knock_306 : decode cX11_knock 306 = .ok (.iload 6, 2) := by decide +kernel
theorem dX11_knock_308 : decode cX11_knock 308 = .ok (.iaload, 1) := by decide +kernel
theorem dX11_knock_309 : decode cX11_knock 309 = .ok (.iaload, 1) := by decide +kernel
theorem dX11_knock_310 : decode cX11_knock 310 = .ok (.goto 4, 3) := by decide +kernel
theorem dX11_knock_313 : decode cX11_knock 313 = .ok (.iconst 0, 1) := by decide +kernel
theorem dX11_knock_314 : decode cX11_knock 314 = .ok (.iadd, 1) := by decide +kernel
theorem dX11_knock_315 : decode cX11_knock 315 = .ok (.istore 5, 2) := by decide +kernel
theorem dX11_knock_317 : decode cX11_knock 317 = .ok (.iinc 6 1, 3) := by decide +kernel
theorem dX11_knock_320 : decode cX11_knock 320 = .ok (.goto (-58), 3) := by decide +kernel
theorem dX11_knock_323 : decode cX11_knock 323 = .ok (.iload 5, 2) := by decide +kernel
theorem dX11_knock_325 : decode cX11_knock 325 = .ok (.ireturn, 1) := by decide +kernel
theorem dX11_keep_0 : decode cX11_keep 0 = .ok (.iload_n 1, 1) := by decide +kernel
theorem dX11_keep_1 : decode cX11_keep 1 = .ok (.i2l, 1) := by decide +kernel
theorem dX11_keep_2 : decode cX11_keep 2 = .ok (.lconst 0, 1) := by decide +kernel
theorem dX11_keep_3 : decode cX11_keep 3 = .ok (.lconst 1, 1) := by decide +kernel
theorem dX11_keep_4 : decode cX11_keep 4 = .ok (.invokestatic 136, 3) := by decide +kernel
theorem dX11_keep_7 : decode cX11_keep 7 = .ok (.ifCond .ne 7, 3) := by decide +kernel
theorem dX11_keep_10 : decode cX11_keep 10 = .ok (.sipush (-1001), 3) := by decide +kernel
theorem dX11_keep_13 : decode cX11_keep 13 = .ok (.ireturn, 1) := by decide +kernel
theorem dX11_keep_14 : decode cX11_keep 14 = .ok (.bipush 60, 2) := by decide +kernel
theorem dX11_keep_16 : decode cX11_keep 16 = .ok (.iload_n 1, 1) := by decide +kernel
theorem dX11_keep_17 : decode cX11_keep 17 = .ok (.imul, 1) := by decide +kernel
theorem dX11_keep_18 : decode cX11_keep 18 = .ok (.istore_n 2, 1) := by decide +kernel
theorem dX11_keep_19 : decode cX11_keep 19 = .ok (.aload_n 0, 1) := by decide +kernel
theorem dX11_keep_20 : decode cX11_keep 20 = .ok (.getfield 127, 3) := by decide +kernel
theorem dX11_keep_23 : decode cX11_keep 23 = .ok (.iload_n 2, 1) := by decide +kernel
theorem dX11_keep_24 : decode cX11_keep 24 = .ok (.aload_n 0, 1) := by decide +kernel
theorem dX11_keep_25 : decode cX11_keep 25 = .ok (.getfield 240, 3) := by decide +kernel
theorem dX11_keep_28 : decode cX11_keep 28 = .ok (.iastore, 1) := by decide +kernel
theorem dX11_keep_29 : decode cX11_keep 29 = .ok (.aload_n 0, 1) := by decide +kernel
theorem dX11_keep_30 : decode cX11_keep 30 = .ok (.getfield 127, 3) := by decide +kernel
theorem dX11_keep_33 : decode cX11_keep 33 = .ok (.iload_n 2, 1) := by decide +kernel
theorem dX11_keep_34 : decode cX11_keep 34 = .ok (.iconst 1, 1) := by decide +kernel
theorem dX11_keep_35 : decode cX11_keep 35 = .ok (.iadd, 1) := by decide +kernel
theorem dX11_keep_36 : decode cX11_keep 36 = .ok (.aload_n 0, 1) := by decide +kernel
theorem dX11_keep_37 : decode cX11_keep 37 = .ok (.getfield 243, 3) := by decide +kernel
theorem dX11_keep_40 : decode cX11_keep 40 = .ok (.iastore, 1) := by decide +kernel
theorem dX11_keep_41 : decode cX11_keep 41 = .ok (.iconst 0, 1) := by decide +kernel
theorem dX11_keep_42 : decode cX11_keep 42 = .ok (.istore_n 3, 1) := by decide +kernel
theorem dX11_keep_43 : decode cX11_keep 43 = .ok (.iload_n 3, 1) := by decide +kernel
theorem dX11_keep_44 : decode cX11_keep 44 = .ok (.bipush 8, 2) := by decide +kernel
theorem dX11_keep_46 : decode cX11_keep 46 = .ok (.if_icmp .ge 65, 3) := by decide +kernel
theorem dX11_keep_49 : decode cX11_keep 49 = .ok (.aload_n 0, 1) := by decide +kernel
theorem dX11_keep_50 : decode cX11_keep 50 = .ok (.getfield 127, 3) := by decide +kernel
theorem dX11_keep_53 : decode cX11_keep 53 = .ok (.iload_n 2, 1) := by decide +kernel
theorem dX11_keep_54 : decode cX11_keep 54 = .ok (.iconst 2, 1) := by decide +kernel
theorem dX11_keep_55 : decode cX11_keep 55 = .ok (.iadd, 1) := by decide +kernel
theorem dX11_keep_56 : decode cX11_keep 56 = .ok (.iload_n 3, 1) := by decide +kernel
theorem dX11_keep_57 : decode cX11_keep 57 = .ok (.iadd, 1) := by decide +kernel
theorem dX11_keep_58 : decode cX11_keep 58 = .ok (.aload_n 0, 1) := by decide +kernel
theorem dX11_keep_59 : decode cX11_keep 59 = .ok (.getfield 48, 3) := by decide +kernel
theorem dX11_keep_62 : decode cX11_keep 62 = .ok (.iload_n 3, 1) := by decide +kernel
theorem dX11_keep_63 : decode cX11_keep 63 = .ok (.iaload, 1) := by decide +kernel
theorem dX11_keep_64 : decode cX11_keep 64 = .ok (.iastore, 1) := by decide +kernel
theorem dX11_keep_65 : decode cX11_keep 65 = .ok (.aload_n 0, 1) := by decide +kernel
theorem dX11_keep_66 : decode cX11_keep 66 = .ok (.getfield 127, 3) := by decide +kernel
theorem dX11_keep_69 : decode cX11_keep 69 = .ok (.iload_n 2, 1) := by decide +kernel
theorem dX11_keep_70 : decode cX11_keep 70 = .ok (.bipush 10, 2) := by decide +kernel
theorem dX11_keep_72 : decode cX11_keep 72 = .ok (.iadd, 1) := by decide +kernel
theorem dX11_keep_73 : decode cX11_keep 73 = .ok (.iload_n 3, 1) := by decide +kernel
theorem dX11_keep_74 : decode cX11_keep 74 = .ok (.iadd, 1) := by decide +kernel
theorem dX11_keep_75 : decode cX11_keep 75 = .ok (.aload_n 0, 1) := by decide +kernel
theorem dX11_keep_76 : decode cX11_keep 76 = .ok (.getfield 51, 3) := by decide +kernel
theorem dX11_keep_79 : decode cX11_keep 79 = .ok (.iload_n 3, 1) := by decide +kernel
theorem dX11_keep_80 : decode cX11_keep 80 = .ok (.baload, 1) := by decide +kernel
theorem dX11_keep_81 : decode cX11_keep 81 = .ok (.ifCond .eq 7, 3) := by decide +kernel
theorem dX11_keep_84 : decode cX11_keep 84 = .ok (.iconst 1, 1) := by decide +kernel
theorem dX11_keep_85 : decode cX11_keep 85 = .ok (.goto 4, 3) := by decide +kernel
theorem dX11_keep_88 : decode cX11_keep 88 = .ok (.iconst 0, 1) := by decide +kernel
theorem dX11_keep_89 : decode cX11_keep 89 = .ok (.aload_n 0, 1) := by decide +kernel
theorem dX11_keep_90 : decode cX11_keep 90 = .ok (.getfield 54, 3) := by decide +kernel
theorem dX11_keep_93 : decode cX11_keep 93 = .ok (.iload_n 3, 1) := by decide +kernel
theorem dX11_keep_94 : decode cX11_keep 94 = .ok (.baload, 1) := by decide +kernel
theorem dX11_keep_95 : decode cX11_keep 95 = .ok (.ifCond .eq 7, 3) := by decide +kernel
theorem dX11_keep_98 : decode cX11_keep 98 = .ok (.iconst 2, 1) := by decide +kernel
theorem dX11_keep_99 : decode cX11_keep 99 = .ok (.goto 4, 3) := by decide +kernel
theorem dX11_keep_102 : decode cX11_keep 102 = .ok (.iconst 0, 1) := by decide +kernel
theorem dX11_keep_103 : decode cX11_keep 103 = .ok (.iadd, 1) := by decide +kernel
theorem dX11_keep_104 : decode cX11_keep 104 = .ok (.iastore, 1) := by decide +kernel
theorem dX11_keep_105 : decode cX11_keep 105 = .ok (.iinc 3 1, 3) := by decide +kernel
theorem dX11_keep_108 : decode cX11_keep 108 = .ok (.goto (-65), 3) := by decide +kernel
theorem dX11_keep_111 : decode cX11_keep 111 = .ok (.iconst 0, 1) := by decide +kernel
theorem dX11_keep_112 : decode cX11_keep 112 = .ok (.istore_n 3, 1) := by decide +kernel
theorem dX11_keep_113 : decode cX11_keep 113 = .ok (.iload_n 3, 1) := by decide +kernel
theorem dX11_keep_114 : decode cX11_keep 114 = .ok (.iconst 4, 1) := by decide +kernel
theorem dX11_keep_115 : decode cX11_keep 115 = .ok (.if_icmp .ge 43, 3) := by decide +kernel
theorem dX11_keep_118 : decode cX11_keep 118 = .ok (.aload_n 0, 1) := by decide +kernel
theorem dX11_keep_119 : decode cX11_keep 119 = .ok (.getfield 127, 3) := by decide +kernel
theorem dX11_keep_122 : decode cX11_keep 122 = .ok (.iload_n 2, 1) := by decide +kernel
theorem dX11_keep_123 : decode cX11_keep 123 = .ok (.bipush 18, 2) := by decide +kernel
theorem dX11_keep_125 : decode cX11_keep 125 = .ok (.iadd, 1) := by decide +kernel
theorem dX11_keep_126 : decode cX11_keep 126 = .ok (.iload_n 3, 1) := by decide +kernel
theorem dX11_keep_127 : decode cX11_keep 127 = .ok (.iadd, 1) := by decide +kernel
theorem dX11_keep_128 : decode cX11_keep 128 = .ok (.aload_n 0, 1) := by decide +kernel
theorem dX11_keep_129 : decode cX11_keep 129 = .ok (.getfield 57, 3) := by decide +kernel
theorem dX11_keep_132 : decode cX11_keep 132 = .ok (.iload_n 3, 1) := by decide +kernel
theorem dX11_keep_133 : decode cX11_keep 133 = .ok (.iaload, 1) := by decide +kernel
theorem dX11_keep_134 : decode cX11_keep 134 = .ok (.iastore, 1) := by decide +kernel
theorem dX11_keep_135 : decode cX11_keep 135 = .ok (.aload_n 0, 1) := by decide +kernel
theorem dX11_keep_136 : decode cX11_keep 136 = .ok (.getfield 127, 3) := by decide +kernel
theorem dX11_keep_139 : decode cX11_keep 139 = .ok (.iload_n 2, 1) := by decide +kernel
theorem dX11_keep_140 : decode cX11_keep 140 = .ok (.bipush 22, 2) := by decide +kernel
theorem dX11_keep_142 : decode cX11_keep 142 = .ok (.iadd, 1) := by decide +kernel
theorem dX11_keep_143 : decode cX11_keep 143 = .ok (.iload_n 3, 1) := by decide +kernel
theorem dX11_keep_144 : decode cX11_keep 144 = .ok (.iadd, 1) := by decide +kernel
theorem dX11_keep_145 : decode cX11_keep 145 = .ok (.aload_n 0, 1) := by decide +kernel
theorem dX11_keep_146 : decode cX11_keep 146 = .ok (.getfield 60, 3) := by decide +kernel
theorem dX11_keep_149 : decode cX11_keep 149 = .ok (.iload_n 3, 1) := by decide +kernel
theorem dX11_keep_150 : decode cX11_keep 150 = .ok (.iaload, 1) := by decide +kernel
theorem dX11_keep_151 : decode cX11_keep 151 = .ok (.iastore, 1) := by decide +kernel
theorem dX11_keep_152 : decode cX11_keep 152 = .ok (.iinc 3 1, 3) := by decide +kernel
theorem dX11_keep_155 : decode cX11_keep 155 = .ok (.goto (-42), 3) := by decide +kernel
theorem dX11_keep_158 : decode cX11_keep 158 = .ok (.iconst 0, 1) := by decide +kernel
theorem dX11_keep_159 : decode cX11_keep 159 = .ok (.istore_n 3, 1) := by decide +kernel
theorem dX11_keep_160 : decode cX11_keep 160 = .ok (.iload_n 3, 1) := by decide +kernel
theorem dX11_keep_161 : decode cX11_keep 161 = .ok (.bipush 24, 2) := by decide +kernel
theorem dX11_keep_163 : decode cX11_keep 163 = .ok (.if_icmp .ge 34, 3) := by decide +kernel
theorem dX11_keep_166 : decode cX11_keep 166 = .ok (.aload_n 0, 1) := by decide +kernel
theorem dX11_keep_167 : decode cX11_keep 167 = .ok (.getfield 127, 3) := by decide +kernel
theorem dX11_keep_170 : decode cX11_keep 170 = .ok (.iload_n 2, 1) := by decide +kernel
theorem dX11_keep_171 : decode cX11_keep 171 = .ok (.bipush 26, 2) := by decide +kernel
theorem dX11_keep_173 : decode cX11_keep 173 = .ok (.iadd, 1) := by decide +kernel
theorem dX11_keep_174 : decode cX11_keep 174 = .ok (.iload_n 3, 1) := by decide +kernel
theorem dX11_keep_175 : decode cX11_keep 175 = .ok (.iadd, 1) := by decide +kernel
theorem dX11_keep_176 : decode cX11_keep 176 = .ok (.aload_n 0, 1) := by decide +kernel
theorem dX11_keep_177 : decode cX11_keep 177 = .ok (.getfield 35, 3) := by decide +kernel
theorem dX11_keep_180 : decode cX11_keep 180 = .ok (.iload_n 3, 1) := by decide +kernel
theorem dX11_keep_181 : decode cX11_keep 181 = .ok (.baload, 1) := by decide +kernel
theorem dX11_keep_182 : decode cX11_keep 182 = .ok (.ifCond .eq 7, 3) := by decide +kernel
theorem dX11_keep_185 : decode cX11_keep 185 = .ok (.iconst 1, 1) := by decide +kernel
theorem dX11_keep_186 : decode cX11_keep 186 = .ok (.goto 4, 3) := by decide +kernel
theorem dX11_keep_189 : decode cX11_keep 189 = .ok (.iconst 0, 1) := by decide +kernel
theorem dX11_keep_190 : decode cX11_keep 190 = .ok (.iastore, 1) := by decide +kernel
theorem dX11_keep_191 : decode cX11_keep 191 = .ok (.iinc 3 1, 3) := by decide +kernel
theorem dX11_keep_194 : decode cX11_keep 194 = .ok (.goto (-34), 3) := by decide +kernel
theorem dX11_keep_197 : decode cX11_keep 197 = .ok (.aload_n 0, 1) := by decide +kernel
theorem dX11_keep_198 : decode cX11_keep 198 = .ok (.getfield 130, 3) := by decide +kernel
theorem dX11_keep_201 : decode cX11_keep 201 = .ok (.iload_n 1, 1) := by decide +kernel
theorem dX11_keep_202 : decode cX11_keep 202 = .ok (.iconst 1, 1) := by decide +kernel
theorem dX11_keep_203 : decode cX11_keep 203 = .ok (.bastore, 1) := by decide +kernel
theorem dX11_keep_204 : decode cX11_keep 204 = .ok (.iconst 1, 1) := by decide +kernel
theorem dX11_keep_205 : decode cX11_keep 205 = .ok (.ireturn, 1) := by decide +kernel
theorem dX11_goBack_0 : decode cX11_goBack 0 = .ok (.iload_n 1, 1) := by decide +kernel
theorem dX11_goBack_1 : decode cX11_goBack 1 = .ok (.i2l, 1) := by decide +kernel
theorem dX11_goBack_2 : decode cX11_goBack 2 = .ok (.lconst 0, 1) := by decide +kernel
theorem dX11_goBack_3 : decode cX11_goBack 3 = .ok (.lconst 1, 1) := by decide +kernel
theorem dX11_goBack_4 : decode cX11_goBack 4 = .ok (.invokestatic 136, 3) := by decide +kernel
theorem dX11_goBack_7 : decode cX11_goBack 7 = .ok (.ifCond .ne 7, 3) := by decide +kernel
theorem dX11_goBack_10 : decode cX11_goBack 10 = .ok (.sipush (-1001), 3) := by decide +kernel
theorem dX11_goBack_13 : decode cX11_goBack 13 = .ok (.ireturn, 1) := by decide +kernel
theorem dX11_goBack_14 : decode cX11_goBack 14 = .ok (.aload_n 0, 1) := by decide +kernel
theorem dX11_goBack_15 : decode cX11_goBack 15 = .ok (.getfield 130, 3) := by decide +kernel
theorem dX11_goBack_18 : decode cX11_goBack 18 = .ok (.iload_n 1, 1) := by decide +kernel
theorem dX11_goBack_19 : decode cX11_goBack 19 = .ok (.baload, 1) := by decide +kernel
theorem dX11_goBack_20 : decode cX11_goBack 20 = .ok (.ifCond .ne 7, 3) := by decide +kernel
theorem dX11_goBack_23 : decode cX11_goBack 23 = .ok (.sipush (-1003), 3) := by decide +kernel
theorem dX11_goBack_26 : decode cX11_goBack 26 = .ok (.ireturn, 1) := by decide +kernel
theorem dX11_goBack_27 : decode cX11_goBack 27 = .ok (.bipush 60, 2) := by decide +kernel
theorem dX11_goBack_29 : decode cX11_goBack 29 = .ok (.iload_n 1, 1) := by decide +kernel
theorem dX11_goBack_30 : decode cX11_goBack 30 = .ok (.imul, 1) := by decide +kernel
theorem dX11_goBack_31 : decode cX11_goBack 31 = .ok (.istore_n 2, 1) := by decide +kernel
theorem dX11_goBack_32 : decode cX11_goBack 32 = .ok (.aload_n 0, 1) := by decide +kernel
theorem dX11_goBack_33 : decode cX11_goBack 33 = .ok (.aload_n 0, 1) := by decide +kernel
theorem dX11_goBack_34 : decode cX11_goBack 34 = .ok (.getfield 127, 3) := by decide +kernel
theorem dX11_goBack_37 : decode cX11_goBack 37 = .ok (.iload_n 2, 1) := by decide +kernel
theorem dX11_goBack_38 : decode cX11_goBack 38 = .ok (.iaload, 1) := by decide +kernel
theorem dX11_goBack_39 : decode cX11_goBack 39 = .ok (.putfield 240, 3) := by decide +kernel
theorem dX11_goBack_42 : decode cX11_goBack 42 = .ok (.aload_n 0, 1) := by decide +kernel
theorem dX11_goBack_43 : decode cX11_goBack 43 = .ok (.aload_n 0, 1) := by decide +kernel
theorem dX11_goBack_44 : decode cX11_goBack 44 = .ok (.getfield 127, 3) := by decide +kernel
theorem dX11_goBack_47 : decode cX11_goBack 47 = .ok (.iload_n 2, 1) := by decide +kernel
theorem dX11_goBack_48 : decode cX11_goBack 48 = .ok (.iconst 1, 1) := by decide +kernel
theorem dX11_goBack_49 : decode cX11_goBack 49 = .ok (.iadd, 1) := by decide +kernel
theorem dX11_goBack_50 : decode cX11_goBack 50 = .ok (.iaload, 1) := by decide +kernel
theorem dX11_goBack_51 : decode cX11_goBack 51 = .ok (.putfield 243, 3) := by decide +kernel
theorem dX11_goBack_54 : decode cX11_goBack 54 = .ok (.iconst 0, 1) := by decide +kernel
theorem dX11_goBack_55 : decode cX11_goBack 55 = .ok (.istore_n 3, 1) := by decide +kernel
theorem dX11_goBack_56 : decode cX11_goBack 56 = .ok (.iload_n 3, 1) := by decide +kernel
theorem dX11_goBack_57 : decode cX11_goBack 57 = .ok (.bipush 8, 2) := by decide +kernel
theorem dX11_goBack_59 : decode cX11_goBack 59 = .ok (.if_icmp .ge 79, 3) := by decide +kernel
theorem dX11_goBack_62 : decode cX11_goBack 62 = .ok (.aload_n 0, 1) := by decide +kernel
theorem dX11_goBack_63 : decode cX11_goBack 63 = .ok (.getfield 48, 3) := by decide +kernel
theorem dX11_goBack_66 : decode cX11_goBack 66 = .ok (.iload_n 3, 1) := by decide +kernel
theorem dX11_goBack_67 : decode cX11_goBack 67 = .ok (.aload_n 0, 1) := by decide +kernel
theorem dX11_goBack_68 : decode cX11_goBack 68 = .ok (.getfield 127, 3) := by decide +kernel
theorem dX11_goBack_71 : decode cX11_goBack 71 = .ok (.iload_n 2, 1) := by decide +kernel
theorem dX11_goBack_72 : decode cX11_goBack 72 = .ok (.iconst 2, 1) := by decide +kernel
theorem dX11_goBack_73 : decode cX11_goBack 73 = .ok (.iadd, 1) := by decide +kernel
theorem dX11_goBack_74 : decode cX11_goBack 74 = .ok (.iload_n 3, 1) := by decide +kernel
theorem dX11_goBack_75 : decode cX11_goBack 75 = .ok (.iadd, 1) := by decide +kernel
theorem dX11_goBack_76 : decode cX11_goBack 76 = .ok (.iaload, 1) := by decide +kernel
theorem dX11_goBack_77 : decode cX11_goBack 77 = .ok (.iastore, 1) := by decide +kernel
theorem dX11_goBack_78 : decode cX11_goBack 78 = .ok (.aload_n 0, 1) := by decide +kernel
theorem dX11_goBack_79 : decode cX11_goBack 79 = .ok (.getfield 51, 3) := by decide +kernel
theorem dX11_goBack_82 : decode cX11_goBack 82 = .ok (.iload_n 3, 1) := by decide +kernel
theorem dX11_goBack_83 : decode cX11_goBack 83 = .ok (.aload_n 0, 1) := by decide +kernel
theorem dX11_goBack_84 : decode cX11_goBack 84 = .ok (.getfield 127, 3) := by decide +kernel
theorem dX11_goBack_87 : decode cX11_goBack 87 = .ok (.iload_n 2, 1) := by decide +kernel
theorem dX11_goBack_88 : decode cX11_goBack 88 = .ok (.bipush 10, 2) := by decide +kernel
theorem dX11_goBack_90 : decode cX11_goBack 90 = .ok (.iadd, 1) := by decide +kernel
theorem dX11_goBack_91 : decode cX11_goBack 91 = .ok (.iload_n 3, 1) := by decide +kernel
theorem dX11_goBack_92 : decode cX11_goBack 92 = .ok (.iadd, 1) := by decide +kernel
theorem dX11_goBack_93 : decode cX11_goBack 93 = .ok (.iaload, 1) := by decide +kernel
theorem dX11_goBack_94 : decode cX11_goBack 94 = .ok (.iconst 2, 1) := by decide +kernel
theorem dX11_goBack_95 : decode cX11_goBack 95 = .ok (.irem, 1) := by decide +kernel
theorem dX11_goBack_96 : decode cX11_goBack 96 = .ok (.iconst 1, 1) := by decide +kernel
theorem dX11_goBack_97 : decode cX11_goBack 97 = .ok (.if_icmp .ne 7, 3) := by decide +kernel
theorem dX11_goBack_100 : decode cX11_goBack 100 = .ok (.iconst 1, 1) := by decide +kernel
theorem dX11_goBack_101 : decode cX11_goBack 101 = .ok (.goto 4, 3) := by decide +kernel
theorem dX11_goBack_104 : decode cX11_goBack 104 = .ok (.iconst 0, 1) := by decide +kernel
theorem dX11_goBack_105 : decode cX11_goBack 105 = .ok (.bastore, 1) := by decide +kernel
theorem dX11_goBack_106 : decode cX11_goBack 106 = .ok (.aload_n 0, 1) := by decide +kernel
theorem dX11_goBack_107 : decode cX11_goBack 107 = .ok (.getfield 54, 3) := by decide +kernel
theorem dX11_goBack_110 : decode cX11_goBack 110 = .ok (.iload_n 3, 1) := by decide +kernel
theorem dX11_goBack_111 : decode cX11_goBack 111 = .ok (.aload_n 0, 1) := by decide +kernel
theorem dX11_goBack_112 : decode cX11_goBack 112 = .ok (.getfield 127, 3) := by decide +kernel
theorem dX11_goBack_115 : decode cX11_goBack 115 = .ok (.iload_n 2, 1) := by decide +kernel
theorem dX11_goBack_116 : decode cX11_goBack 116 = .ok (.bipush 10, 2) := by decide +kernel
theorem dX11_goBack_118 : decode cX11_goBack 118 = .ok (.iadd, 1) := by decide +kernel
theorem dX11_goBack_119 : decode cX11_goBack 119 = .ok (.iload_n 3, 1) := by decide +kernel
theorem dX11_goBack_120 : decode cX11_goBack 120 = .ok (.iadd, 1) := by decide +kernel
theorem dX11_goBack_121 : decode cX11_goBack 121 = .ok (.iaload, 1) := by decide +kernel
theorem dX11_goBack_122 : decode cX11_goBack 122 = .ok (.iconst 1, 1) := by decide +kernel
theorem dX11_goBack_123 : decode cX11_goBack 123 = .ok (.if_icmp .le 7, 3) := by decide +kernel
theorem dX11_goBack_126 : decode cX11_goBack 126 = .ok (.iconst 1, 1) := by decide +kernel
theorem dX11_goBack_127 : decode cX11_goBack 127 = .ok (.goto 4, 3) := by decide +kernel
theorem dX11_goBack_130 : decode cX11_goBack 130 = .ok (.iconst 0, 1) := by decide +kernel
theorem dX11_goBack_131 : decode cX11_goBack 131 = .ok (.bastore, 1) := by decide +kernel
theorem dX11_goBack_132 : decode cX11_goBack 132 = .ok (.iinc 3 1, 3) := by decide +kernel
theorem dX11_goBack_135 : decode cX11_goBack 135 = .ok (.goto (-79), 3) := by decide +kernel
theorem dX11_goBack_138 : decode cX11_goBack 138 = .ok (.iconst 0, 1) := by decide +kernel
theorem dX11_goBack_139 : decode cX11_goBack 139 = .ok (.istore_n 3, 1) := by decide +kernel
theorem dX11_goBack_140 : decode cX11_goBack 140 = .ok (.iload_n 3, 1) := by decide +kernel
theorem dX11_goBack_141 : decode cX11_goBack 141 = .ok (.iconst 4, 1) := by decide +kernel
theorem dX11_goBack_142 : decode cX11_goBack 142 = .ok (.if_icmp .ge 43, 3) := by decide +kernel
theorem dX11_goBack_145 : decode cX11_goBack 145 = .ok (.aload_n 0, 1) := by decide +kernel
theorem dX11_goBack_146 : decode cX11_goBack 146 = .ok (.getfield 57, 3) := by decide +kernel
theorem dX11_goBack_149 : decode cX11_goBack 149 = .ok (.iload_n 3, 1) := by decide +kernel
theorem dX11_goBack_150 : decode cX11_goBack 150 = .ok (.aload_n 0, 1) := by decide +kernel
theorem dX11_goBack_151 : decode cX11_goBack 151 = .ok (.getfield 127, 3) := by decide +kernel
theorem dX11_goBack_154 : decode cX11_goBack 154 = .ok (.iload_n 2, 1) := by decide +kernel
theorem dX11_goBack_155 : decode cX11_goBack 155 = .ok (.bipush 18, 2) := by decide +kernel
theorem dX11_goBack_157 : decode cX11_goBack 157 = .ok (.iadd, 1) := by decide +kernel
theorem dX11_goBack_158 : decode cX11_goBack 158 = .ok (.iload_n 3, 1) := by decide +kernel
theorem dX11_goBack_159 : decode cX11_goBack 159 = .ok (.iadd, 1) := by decide +kernel
theorem dX11_goBack_160 : decode cX11_goBack 160 = .ok (.iaload, 1) := by decide +kernel
theorem dX11_goBack_161 : decode cX11_goBack 161 = .ok (.iastore, 1) := by decide +kernel
theorem dX11_goBack_162 : decode cX11_goBack 162 = .ok (.aload_n 0, 1) := by decide +kernel
theorem dX11_goBack_163 : decode cX11_goBack 163 = .ok (.getfield 60, 3) := by decide +kernel
theorem dX11_goBack_166 : decode cX11_goBack 166 = .ok (.iload_n 3, 1) := by decide +kernel
theorem dX11_goBack_167 : decode cX11_goBack 167 = .ok (.aload_n 0, 1) := by decide +kernel
theorem dX11_goBack_168 : decode cX11_goBack 168 = .ok (.getfield 127, 3) := by decide +kernel
theorem dX11_goBack_171 : decode cX11_goBack 171 = .ok (.iload_n 2, 1) := by decide +kernel
theorem dX11_goBack_172 : decode cX11_goBack 172 = .ok (.bipush 22, 2) := by decide +kernel
theorem dX11_goBack_174 : decode cX11_goBack 174 = .ok (.iadd, 1) := by decide +kernel
theorem dX11_goBack_175 : decode cX11_goBack 175 = .ok (.iload_n 3, 1) := by decide +kernel
theorem dX11_goBack_176 : decode cX11_goBack 176 = .ok (.iadd, 1) := by decide +kernel
theorem dX11_goBack_177 : decode cX11_goBack 177 = .ok (.iaload, 1) := by decide +kernel
theorem dX11_goBack_178 : decode cX11_goBack 178 = .ok (.iastore, 1) := by decide +kernel
theorem dX11_goBack_179 : decode cX11_goBack 179 = .ok (.iinc 3 1, 3) := by decide +kernel
theorem dX11_goBack_182 : decode cX11_goBack 182 = .ok (.goto (-42), 3) := by decide +kernel
theorem dX11_goBack_185 : decode cX11_goBack 185 = .ok (.iconst 0, 1) := by decide +kernel
theorem dX11_goBack_186 : decode cX11_goBack 186 = .ok (.istore_n 3, 1) := by decide +kernel
theorem dX11_goBack_187 : decode cX11_goBack 187 = .ok (.iload_n 3, 1) := by decide +kernel
theorem dX11_goBack_188 : decode cX11_goBack 188 = .ok (.bipush 24, 2) := by decide +kernel
theorem dX11_goBack_190 : decode cX11_goBack 190 = .ok (.if_icmp .ge 35, 3) := by decide +kernel
theorem dX11_goBack_193 : decode cX11_goBack 193 = .ok (.aload_n 0, 1) := by decide +kernel
theorem dX11_goBack_194 : decode cX11_goBack 194 = .ok (.getfield 35, 3) := by decide +kernel
theorem dX11_goBack_197 : decode cX11_goBack 197 = .ok (.iload_n 3, 1) := by decide +kernel
theorem dX11_goBack_198 : decode cX11_goBack 198 = .ok (.aload_n 0, 1) := by decide +kernel
theorem dX11_goBack_199 : decode cX11_goBack 199 = .ok (.getfield 127, 3) := by decide +kernel
theorem dX11_goBack_202 : decode cX11_goBack 202 = .ok (.iload_n 2, 1) := by decide +kernel
theorem dX11_goBack_203 : decode cX11_goBack 203 = .ok (.bipush 26, 2) := by decide +kernel
theorem dX11_goBack_205 : decode cX11_goBack 205 = .ok (.iadd, 1) := by decide +kernel
theorem dX11_goBack_206 : decode cX11_goBack 206 = .ok (.iload_n 3, 1) := by decide +kernel
theorem dX11_goBack_207 : decode cX11_goBack 207 = .ok (.iadd, 1) := by decide +kernel
theorem dX11_goBack_208 : decode cX11_goBack 208 = .ok (.iaload, 1) := by decide +kernel
theorem dX11_goBack_209 : decode cX11_goBack 209 = .ok (.iconst 1, 1) := by decide +kernel
theorem dX11_goBack_210 : decode cX11_goBack 210 = .ok (.if_icmp .ne 7, 3) := by decide +kernel
theorem dX11_goBack_213 : decode cX11_goBack 213 = .ok (.iconst 1, 1) := by decide +kernel
theorem dX11_goBack_214 : decode cX11_goBack 214 = .ok (.goto 4, 3) := by decide +kernel
theorem dX11_goBack_217 : decode cX11_goBack 217 = .ok (.iconst 0, 1) := by decide +kernel
theorem dX11_goBack_218 : decode cX11_goBack 218 = .ok (.bastore, 1) := by decide +kernel
theorem dX11_goBack_219 : decode cX11_goBack 219 = .ok (.iinc 3 1, 3) := by decide +kernel
theorem dX11_goBack_222 : decode cX11_goBack 222 = .ok (.goto (-35), 3) := by decide +kernel
theorem dX11_goBack_225 : decode cX11_goBack 225 = .ok (.iconst 1, 1) := by decide +kernel
theorem dX11_goBack_226 : decode cX11_goBack 226 = .ok (.ireturn, 1) := by decide +kernel
