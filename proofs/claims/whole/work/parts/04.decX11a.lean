theorem dX11_init_0 : decode cX11_init 0 = .ok (.aload_n 0, 1) := by decide +kernel
theorem dX11_init_1 : decode cX11_init 1 = .ok (.invokespecial 7, 3) := by decide +kernel
theorem dX11_init_4 : decode cX11_init 4 = .ok (.aload_n 0, 1) := by decide +kernel
theorem dX11_init_5 : decode cX11_init 5 = .ok (.sipush 2000, 3) := by decide +kernel
theorem dX11_init_8 : decode cX11_init 8 = .ok (.newarray .byte, 2) := by decide +kernel
theorem dX11_init_10 : decode cX11_init 10 = .ok (.putfield 13, 3) := by decide +kernel
theorem dX11_init_13 : decode cX11_init 13 = .ok (.aload_n 0, 1) := by decide +kernel
theorem dX11_init_14 : decode cX11_init 14 = .ok (.sipush 2000, 3) := by decide +kernel
theorem dX11_init_17 : decode cX11_init 17 = .ok (.newarray .byte, 2) := by decide +kernel
theorem dX11_init_19 : decode cX11_init 19 = .ok (.putfield 17, 3) := by decide +kernel
theorem dX11_init_22 : decode cX11_init 22 = .ok (.aload_n 0, 1) := by decide +kernel
theorem dX11_init_23 : decode cX11_init 23 = .ok (.sipush 403, 3) := by decide +kernel
theorem dX11_init_26 : decode cX11_init 26 = .ok (.newarray .int, 2) := by decide +kernel
theorem dX11_init_28 : decode cX11_init 28 = .ok (.putfield 20, 3) := by decide +kernel
theorem dX11_init_31 : decode cX11_init 31 = .ok (.aload_n 0, 1) := by decide +kernel
theorem dX11_init_32 : decode cX11_init 32 = .ok (.sipush 403, 3) := by decide +kernel
theorem dX11_init_35 : decode cX11_init 35 = .ok (.newarray .int, 2) := by decide +kernel
theorem dX11_init_37 : decode cX11_init 37 = .ok (.putfield 24, 3) := by decide +kernel
theorem dX11_init_40 : decode cX11_init 40 = .ok (.aload_n 0, 1) := by decide +kernel
theorem dX11_init_41 : decode cX11_init 41 = .ok (.sipush 403, 3) := by decide +kernel
theorem dX11_init_44 : decode cX11_init 44 = .ok (.newarray .int, 2) := by decide +kernel
theorem dX11_init_46 : decode cX11_init 46 = .ok (.putfield 27, 3) := by decide +kernel
theorem dX11_init_49 : decode cX11_init 49 = .ok (.aload_n 0, 1) := by decide +kernel
theorem dX11_init_50 : decode cX11_init 50 = .ok (.sipush 403, 3) := by decide +kernel
theorem dX11_init_53 : decode cX11_init 53 = .ok (.newarray .long, 2) := by decide +kernel
theorem dX11_init_55 : decode cX11_init 55 = .ok (.putfield 30, 3) := by decide +kernel
theorem dX11_init_58 : decode cX11_init 58 = .ok (.aload_n 0, 1) := by decide +kernel
theorem dX11_init_59 : decode cX11_init 59 = .ok (.iconst 4, 1) := by decide +kernel
theorem dX11_init_60 : decode cX11_init 60 = .ok (.newarray .long, 2) := by decide +kernel
theorem dX11_init_62 : decode cX11_init 62 = .ok (.putfield 34, 3) := by decide +kernel
theorem dX11_init_65 : decode cX11_init 65 = .ok (.aload_n 0, 1) := by decide +kernel
theorem dX11_init_66 : decode cX11_init 66 = .ok (.iconst (-1), 1) := by decide +kernel
theorem dX11_init_67 : decode cX11_init 67 = .ok (.putfield 37, 3) := by decide +kernel
theorem dX11_init_70 : decode cX11_init 70 = .ok (.aload_n 0, 1) := by decide +kernel
theorem dX11_init_71 : decode cX11_init 71 = .ok (.bipush 98, 2) := by decide +kernel
theorem dX11_init_73 : decode cX11_init 73 = .ok (.newarray .int, 2) := by decide +kernel
theorem dX11_init_75 : decode cX11_init 75 = .ok (.putfield 40, 3) := by decide +kernel
theorem dX11_init_78 : decode cX11_init 78 = .ok (.aload_n 0, 1) := by decide +kernel
theorem dX11_init_79 : decode cX11_init 79 = .ok (.bipush 98, 2) := by decide +kernel
theorem dX11_init_81 : decode cX11_init 81 = .ok (.newarray .int, 2) := by decide +kernel
theorem dX11_init_83 : decode cX11_init 83 = .ok (.putfield 43, 3) := by decide +kernel
theorem dX11_init_86 : decode cX11_init 86 = .ok (.aload_n 0, 1) := by decide +kernel
theorem dX11_init_87 : decode cX11_init 87 = .ok (.bipush 6, 2) := by decide +kernel
theorem dX11_init_89 : decode cX11_init 89 = .ok (.newarray .long, 2) := by decide +kernel
theorem dX11_init_91 : decode cX11_init 91 = .ok (.putfield 46, 3) := by decide +kernel
theorem dX11_init_94 : decode cX11_init 94 = .ok (.aload_n 0, 1) := by decide +kernel
theorem dX11_init_95 : decode cX11_init 95 = .ok (.sipush 3920, 3) := by decide +kernel
theorem dX11_init_98 : decode cX11_init 98 = .ok (.newarray .int, 2) := by decide +kernel
theorem dX11_init_100 : decode cX11_init 100 = .ok (.putfield 49, 3) := by decide +kernel
theorem dX11_init_103 : decode cX11_init 103 = .ok (.aload_n 0, 1) := by decide +kernel
theorem dX11_init_104 : decode cX11_init 104 = .ok (.sipush 294, 3) := by decide +kernel
theorem dX11_init_107 : decode cX11_init 107 = .ok (.newarray .int, 2) := by decide +kernel
theorem dX11_init_109 : decode cX11_init 109 = .ok (.putfield 52, 3) := by decide +kernel
theorem dX11_init_112 : decode cX11_init 112 = .ok (.aload_n 0, 1) := by decide +kernel
theorem dX11_init_113 : decode cX11_init 113 = .ok (.iconst 3, 1) := by decide +kernel
theorem dX11_init_114 : decode cX11_init 114 = .ok (.newarray .boolean, 2) := by decide +kernel
theorem dX11_init_116 : decode cX11_init 116 = .ok (.putfield 55, 3) := by decide +kernel
theorem dX11_init_119 : decode cX11_init 119 = .ok (.aload_n 0, 1) := by decide +kernel
theorem dX11_init_120 : decode cX11_init 120 = .ok (.bipush 40, 2) := by decide +kernel
theorem dX11_init_122 : decode cX11_init 122 = .ok (.newarray .int, 2) := by decide +kernel
theorem dX11_init_124 : decode cX11_init 124 = .ok (.putfield 59, 3) := by decide +kernel
theorem dX11_init_127 : decode cX11_init 127 = .ok (.aload_n 0, 1) := by decide +kernel
theorem dX11_init_128 : decode cX11_init 128 = .ok (.bipush 30, 2) := by decide +kernel
theorem dX11_init_130 : decode cX11_init 130 = .ok (.newarray .int, 2) := by decide +kernel
theorem dX11_init_132 : decode cX11_init 132 = .ok (.putfield 62, 3) := by decide +kernel
theorem dX11_init_135 : decode cX11_init 135 = .ok (.aload_n 0, 1) := by decide +kernel
theorem dX11_init_136 : decode cX11_init 136 = .ok (.bipush 30, 2) := by decide +kernel
theorem dX11_init_138 : decode cX11_init 138 = .ok (.newarray .int, 2) := by decide +kernel
theorem dX11_init_140 : decode cX11_init 140 = .ok (.putfield 65, 3) := by decide +kernel
theorem dX11_init_143 : decode cX11_init 143 = .ok (.aload_n 0, 1) := by decide +kernel
theorem dX11_init_144 : decode cX11_init 144 = .ok (.bipush 6, 2) := by decide +kernel
theorem dX11_init_146 : decode cX11_init 146 = .ok (.newarray .int, 2) := by decide +kernel
theorem dX11_init_148 : decode cX11_init 148 = .ok (.putfield 68, 3) := by decide +kernel
theorem dX11_init_151 : decode cX11_init 151 = .ok (.aload_n 0, 1) := by decide +kernel
theorem dX11_init_152 : decode cX11_init 152 = .ok (.bipush 98, 2) := by decide +kernel
theorem dX11_init_154 : decode cX11_init 154 = .ok (.newarray .int, 2) := by decide +kernel
theorem dX11_init_156 : decode cX11_init 156 = .ok (.putfield 71, 3) := by decide +kernel
theorem dX11_init_159 : decode cX11_init 159 = .ok (.aload_n 0, 1) := by decide +kernel
theorem dX11_init_160 : decode cX11_init 160 = .ok (.bipush 20, 2) := by decide +kernel
theorem dX11_init_162 : decode cX11_init 162 = .ok (.newarray .int, 2) := by decide +kernel
theorem dX11_init_164 : decode cX11_init 164 = .ok (.putfield 74, 3) := by decide +kernel
theorem dX11_init_167 : decode cX11_init 167 = .ok (.aload_n 0, 1) := by decide +kernel
theorem dX11_init_168 : decode cX11_init 168 = .ok (.bipush 30, 2) := by decide +kernel
theorem dX11_init_170 : decode cX11_init 170 = .ok (.newarray .int, 2) := by decide +kernel
theorem dX11_init_172 : decode cX11_init 172 = .ok (.putfield 77, 3) := by decide +kernel
theorem dX11_init_175 : decode cX11_init 175 = .ok (.aload_n 0, 1) := by decide +kernel
theorem dX11_init_176 : decode cX11_init 176 = .ok (.bipush 30, 2) := by decide +kernel
theorem dX11_init_178 : decode cX11_init 178 = .ok (.newarray .int, 2) := by decide +kernel
theorem dX11_init_180 : decode cX11_init 180 = .ok (.putfield 80, 3) := by decide +kernel
theorem dX11_init_183 : decode cX11_init 183 = .ok (.aload_n 0, 1) := by decide +kernel
theorem dX11_init_184 : decode cX11_init 184 = .ok (.bipush 10, 2) := by decide +kernel
theorem dX11_init_186 : decode cX11_init 186 = .ok (.newarray .int, 2) := by decide +kernel
theorem dX11_init_188 : decode cX11_init 188 = .ok (.putfield 83, 3) := by decide +kernel
theorem dX11_init_191 : decode cX11_init 191 = .ok (.aload_n 0, 1) := by decide +kernel
theorem dX11_init_192 : decode cX11_init 192 = .ok (.bipush 40, 2) := by decide +kernel
theorem dX11_init_194 : decode cX11_init 194 = .ok (.newarray .int, 2) := by decide +kernel
theorem dX11_init_196 : decode cX11_init 196 = .ok (.putfield 86, 3) := by decide +kernel
theorem dX11_init_199 : decode cX11_init 199 = .ok (.aload_n 0, 1) := by decide +kernel
theorem dX11_init_200 : decode cX11_init 200 = .ok (.bipush 40, 2) := by decide +kernel
theorem dX11_init_202 : decode cX11_init 202 = .ok (.newarray .int, 2) := by decide +kernel
theorem dX11_init_204 : decode cX11_init 204 = .ok (.putfield 89, 3) := by decide +kernel
theorem dX11_init_207 : decode cX11_init 207 = .ok (.aload_n 0, 1) := by decide +kernel
theorem dX11_init_208 : decode cX11_init 208 = .ok (.bipush 40, 2) := by decide +kernel
theorem dX11_init_210 : decode cX11_init 210 = .ok (.newarray .int, 2) := by decide +kernel
theorem dX11_init_212 : decode cX11_init 212 = .ok (.putfield 92, 3) := by decide +kernel
theorem dX11_init_215 : decode cX11_init 215 = .ok (.aload_n 0, 1) := by decide +kernel
theorem dX11_init_216 : decode cX11_init 216 = .ok (.getfield 34, 3) := by decide +kernel
theorem dX11_init_219 : decode cX11_init 219 = .ok (.iconst 0, 1) := by decide +kernel
theorem dX11_init_220 : decode cX11_init 220 = .ok (.bipush 112, 2) := by decide +kernel
theorem dX11_init_222 : decode cX11_init 222 = .ok (.bipush 111, 2) := by decide +kernel
theorem dX11_init_224 : decode cX11_init 224 = .ok (.bipush 115, 2) := by decide +kernel
theorem dX11_init_226 : decode cX11_init 226 = .ok (.bipush 116, 2) := by decide +kernel
theorem dX11_init_228 : decode cX11_init 228 = .ok (.iconst 0, 1) := by decide +kernel
theorem dX11_init_229 : decode cX11_init 229 = .ok (.iconst 0, 1) := by decide +kernel
theorem dX11_init_230 : decode cX11_init 230 = .ok (.iconst 0, 1) := by decide +kernel
theorem dX11_init_231 : decode cX11_init 231 = .ok (.invokestatic 95, 3) := by decide +kernel
theorem dX11_init_234 : decode cX11_init 234 = .ok (.lastore, 1) := by decide +kernel
theorem dX11_init_235 : decode cX11_init 235 = .ok (.aload_n 0, 1) := by decide +kernel
theorem dX11_init_236 : decode cX11_init 236 = .ok (.getfield 34, 3) := by decide +kernel
theorem dX11_init_239 : decode cX11_init 239 = .ok (.iconst 1, 1) := by decide +kernel
theorem dX11_init_240 : decode cX11_init 240 = .ok (.bipush 108, 2) := by decide +kernel
theorem dX11_init_242 : decode cX11_init 242 = .ok (.bipush 105, 2) := by decide +kernel
theorem dX11_init_244 : decode cX11_init 244 = .ok (.bipush 110, 2) := by decide +kernel
theorem dX11_init_246 : decode cX11_init 246 = .ok (.bipush 101, 2) := by decide +kernel
theorem dX11_init_248 : decode cX11_init 248 = .ok (.iconst 0, 1) := by decide +kernel
theorem dX11_init_249 : decode cX11_init 249 = .ok (.iconst 0, 1) := by decide +kernel
theorem dX11_init_250 : decode cX11_init 250 = .ok (.iconst 0, 1) := by decide +kernel
theorem dX11_init_251 : decode cX11_init 251 = .ok (.invokestatic 95, 3) := by decide +kernel
theorem dX11_init_254 : decode cX11_init 254 = .ok (.lastore, 1) := by decide +kernel
theorem dX11_init_255 : decode cX11_init 255 = .ok (.aload_n 0, 1) := by decide +kernel
theorem dX11_init_256 : decode cX11_init 256 = .ok (.getfield 34, 3) := by decide +kernel
theorem dX11_init_259 : decode cX11_init 259 = .ok (.iconst 2, 1) := by decide +kernel
theorem dX11_init_260 : decode cX11_init 260 = .ok (.bipush 116, 2) := by decide +kernel
theorem dX11_init_262 : decode cX11_init 262 = .ok (.bipush 119, 2) := by decide +kernel
theorem dX11_init_264 : decode cX11_init 264 = .ok (.bipush 105, 2) := by decide +kernel
theorem dX11_init_266 : decode cX11_init 266 = .ok (.bipush 115, 2) := by decide +kernel
theorem dX11_init_268 : decode cX11_init 268 = .ok (.bipush 116, 2) := by decide +kernel
theorem dX11_init_270 : decode cX11_init 270 = .ok (.bipush 101, 2) := by decide +kernel
theorem dX11_init_272 : decode cX11_init 272 = .ok (.bipush 100, 2) := by decide +kernel
theorem dX11_init_274 : decode cX11_init 274 = .ok (.invokestatic 95, 3) := by decide +kernel
theorem dX11_init_277 : decode cX11_init 277 = .ok (.lastore, 1) := by decide +kernel
theorem dX11_init_278 : decode cX11_init 278 = .ok (.aload_n 0, 1) := by decide +kernel
theorem dX11_init_279 : decode cX11_init 279 = .ok (.getfield 34, 3) := by decide +kernel
theorem dX11_init_282 : decode cX11_init 282 = .ok (.iconst 3, 1) := by decide +kernel
theorem dX11_init_283 : decode cX11_init 283 = .ok (.bipush 114, 2) := by decide +kernel
theorem dX11_init_285 : decode cX11_init 285 = .ok (.bipush 111, 2) := by decide +kernel
theorem dX11_init_287 : decode cX11_init 287 = .ok (.bipush 117, 2) := by decide +kernel
theorem dX11_init_289 : decode cX11_init 289 = .ok (.bipush 110, 2) := by decide +kernel
theorem dX11_init_291 : decode cX11_init 291 = .ok (.bipush 100, 2) := by decide +kernel
theorem dX11_init_293 : decode cX11_init 293 = .ok (.iconst 0, 1) := by decide +kernel
theorem dX11_init_294 : decode cX11_init 294 = .ok (.iconst 0, 1) := by decide +kernel
theorem dX11_init_295 : decode cX11_init 295 = .ok (.invokestatic 95, 3) := by decide +kernel
theorem dX11_init_298 : decode cX11_init 298 = .ok (.lastore, 1) := by decide +kernel
theorem dX11_init_299 : decode cX11_init 299 = .ok (.return_, 1) := by decide +kernel
theorem dX11_feed_0 : decode cX11_feed 0 = .ok (.aload_n 0, 1) := by decide +kernel
theorem dX11_feed_1 : decode cX11_feed 1 = .ok (.getfield 99, 3) := by decide +kernel
theorem dX11_feed_4 : decode cX11_feed 4 = .ok (.bipush 20, 2) := by decide +kernel
theorem dX11_feed_6 : decode cX11_feed 6 = .ok (.iadd, 1) := by decide +kernel
theorem dX11_feed_7 : decode cX11_feed 7 = .ok (.sipush 2000, 3) := by decide +kernel
theorem dX11_feed_10 : decode cX11_feed 10 = .ok (.if_icmp .le 5, 3) := by decide +kernel
theorem dX11_feed_13 : decode cX11_feed 13 = .ok (.iconst (-1), 1) := by decide +kernel
theorem dX11_feed_14 : decode cX11_feed 14 = .ok (.ireturn, 1) := by decide +kernel
theorem dX11_feed_15 : decode cX11_feed 15 = .ok (.aload_n 0, 1) := by decide +kernel
theorem dX11_feed_16 : decode cX11_feed 16 = .ok (.iload_n 1, 1) := by decide +kernel
theorem dX11_feed_17 : decode cX11_feed 17 = .ok (.invokevirtual 102, 3) := by decide +kernel
theorem dX11_feed_20 : decode cX11_feed 20 = .ok (.aload_n 0, 1) := by decide +kernel
theorem dX11_feed_21 : decode cX11_feed 21 = .ok (.iload_n 2, 1) := by decide +kernel
theorem dX11_feed_22 : decode cX11_feed 22 = .ok (.invokevirtual 102, 3) := by decide +kernel
theorem dX11_feed_25 : decode cX11_feed 25 = .ok (.aload_n 0, 1) := by decide +kernel
theorem dX11_feed_26 : decode cX11_feed 26 = .ok (.iload_n 3, 1) := by decide +kernel
theorem dX11_feed_27 : decode cX11_feed 27 = .ok (.invokevirtual 102, 3) := by decide +kernel
theorem dX11_feed_30 : decode cX11_feed 30 = .ok (.aload_n 0, 1) := by decide +kernel
theorem dX11_feed_31 : decode cX11_feed 31 = .ok (.iload 4, 2) := by decide +kernel
theorem dX11_feed_33 : decode cX11_feed 33 = .ok (.invokevirtual 102, 3) := by decide +kernel
theorem dX11_feed_36 : decode cX11_feed 36 = .ok (.aload_n 0, 1) := by decide +kernel
theorem dX11_feed_37 : decode cX11_feed 37 = .ok (.iload 5, 2) := by decide +kernel
theorem dX11_feed_39 : decode cX11_feed 39 = .ok (.invokevirtual 102, 3) := by decide +kernel
theorem dX11_feed_42 : decode cX11_feed 42 = .ok (.aload_n 0, 1) := by decide +kernel
theorem dX11_feed_43 : decode cX11_feed 43 = .ok (.getfield 99, 3) := by decide +kernel
theorem dX11_feed_46 : decode cX11_feed 46 = .ok (.ireturn, 1) := by decide +kernel
theorem dX11_lays_0 : decode cX11_lays 0 = .ok (.bipush 24, 2) := by decide +kernel
theorem dX11_lays_2 : decode cX11_lays 2 = .ok (.istore_n 2, 1) := by decide +kernel
theorem dX11_lays_3 : decode cX11_lays 3 = .ok (.iload_n 2, 1) := by decide +kernel
theorem dX11_lays_4 : decode cX11_lays 4 = .ok (.ifCond .lt 32, 3) := by decide +kernel
theorem dX11_lays_7 : decode cX11_lays 7 = .ok (.aload_n 0, 1) := by decide +kernel
theorem dX11_lays_8 : decode cX11_lays 8 = .ok (.getfield 13, 3) := by decide +kernel
theorem dX11_lays_11 : decode cX11_lays 11 = .ok (.aload_n 0, 1) := by decide +kernel
theorem dX11_lays_12 : decode cX11_lays 12 = .ok (.getfield 99, 3) := by decide +kernel
theorem dX11_lays_15 : decode cX11_lays 15 = .ok (.iload_n 1, 1) := by decide +kernel
theorem dX11_lays_16 : decode cX11_lays 16 = .ok (.iload_n 2, 1) := by decide +kernel
theorem dX11_lays_17 : decode cX11_lays 17 = .ok (.ishr, 1) := by decide +kernel
theorem dX11_lays_18 : decode cX11_lays 18 = .ok (.i2b, 1) := by decide +kernel
theorem dX11_lays_19 : decode cX11_lays 19 = .ok (.bastore, 1) := by decide +kernel
theorem dX11_lays_20 : decode cX11_lays 20 = .ok (.aload_n 0, 1) := by decide +kernel
theorem dX11_lays_21 : decode cX11_lays 21 = .ok (.dup, 1) := by decide +kernel
theorem dX11_lays_22 : decode cX11_lays 22 = .ok (.getfield 99, 3) := by decide +kernel
theorem dX11_lays_25 : decode cX11_lays 25 = .ok (.iconst 1, 1) := by decide +kernel
theorem dX11_lays_26 : decode cX11_lays 26 = .ok (.iadd, 1) := by decide +kernel
theorem dX11_lays_27 : decode cX11_lays 27 = .ok (.putfield 99, 3) := by decide +kernel
theorem dX11_lays_30 : decode cX11_lays 30 = .ok (.iinc 2 (-8), 3) := by decide +kernel
theorem dX11_lays_33 : decode cX11_lays 33 = .ok (.goto (-30), 3) := by decide +kernel
theorem dX11_lays_36 : decode cX11_lays 36 = .ok (.return_, 1) := by decide +kernel
theorem dX11_back_0 : decode cX11_back 0 = .ok (.iload_n 1, 1) := by decide +kernel
theorem dX11_back_1 : decode cX11_back 1 = .ok (.ifCond .lt 11, 3) := by decide +kernel
theorem dX11_back_4 : decode cX11_back 4 = .ok (.iload_n 1, 1) := by decide +kernel
theorem dX11_back_5 : decode cX11_back 5 = .ok (.aload_n 0, 1) := by decide +kernel
theorem dX11_back_6 : decode cX11_back 6 = .ok (.getfield 99, 3) := by decide +kernel
theorem dX11_back_9 : decode cX11_back 9 = .ok (.if_icmp .le 5, 3) := by decide +kernel
theorem dX11_back_12 : decode cX11_back 12 = .ok (.iconst (-1), 1) := by decide +kernel
theorem dX11_back_13 : decode cX11_back 13 = .ok (.ireturn, 1) := by decide +kernel
theorem dX11_back_14 : decode cX11_back 14 = .ok (.aload_n 0, 1) := by decide +kernel
theorem dX11_back_15 : decode cX11_back 15 = .ok (.dup, 1) := by decide +kernel
theorem dX11_back_16 : decode cX11_back 16 = .ok (.getfield 99, 3) := by decide +kernel
theorem dX11_back_19 : decode cX11_back 19 = .ok (.iload_n 1, 1) := by decide +kernel
theorem dX11_back_20 : decode cX11_back 20 = .ok (.isub, 1) := by decide +kernel
theorem dX11_back_21 : decode cX11_back 21 = .ok (.putfield 99, 3) := by decide +kernel
theorem dX11_back_24 : decode cX11_back 24 = .ok (.aload_n 0, 1) := by decide +kernel
theorem dX11_back_25 : decode cX11_back 25 = .ok (.getfield 99, 3) := by decide +kernel
theorem dX11_back_28 : decode cX11_back 28 = .ok (.ireturn, 1) := by decide +kernel
theorem dX11_byteAt_0 : decode cX11_byteAt 0 = .ok (.iload_n 1, 1) := by decide +kernel
theorem dX11_byteAt_1 : decode cX11_byteAt 1 = .ok (.aload_n 0, 1) := by decide +kernel
theorem dX11_byteAt_2 : decode cX11_byteAt 2 = .ok (.getfield 106, 3) := by decide +kernel
theorem dX11_byteAt_5 : decode cX11_byteAt 5 = .ok (.if_icmp .ge 16, 3) := by decide +kernel
theorem dX11_byteAt_8 : decode cX11_byteAt 8 = .ok (.aload_n 0, 1) := by decide +kernel
theorem dX11_byteAt_9 : decode cX11_byteAt 9 = .ok (.getfield 17, 3) := by decide +kernel
theorem dX11_byteAt_12 : decode cX11_byteAt 12 = .ok (.iload_n 1, 1) := by decide +kernel
theorem dX11_byteAt_13 : decode cX11_byteAt 13 = .ok (.baload, 1) := by decide +kernel
theorem dX11_byteAt_14 : decode cX11_byteAt 14 = .ok (.sipush 255, 3) := by decide +kernel
theorem dX11_byteAt_17 : decode cX11_byteAt 17 = .ok (.iand, 1) := by decide +kernel
theorem dX11_byteAt_18 : decode cX11_byteAt 18 = .ok (.goto 4, 3) := by decide +kernel
theorem dX11_byteAt_21 : decode cX11_byteAt 21 = .ok (.iconst 0, 1) := by decide +kernel
theorem dX11_byteAt_22 : decode cX11_byteAt 22 = .ok (.ireturn, 1) := by decide +kernel
theorem dX11_isDigit_0 : decode cX11_isDigit 0 = .ok (.iload_n 0, 1) := by decide +kernel
theorem dX11_isDigit_1 : decode cX11_isDigit 1 = .ok (.bipush 48, 2) := by decide +kernel
theorem dX11_isDigit_3 : decode cX11_isDigit 3 = .ok (.if_icmp .lt 13, 3) := by decide +kernel
theorem dX11_isDigit_6 : decode cX11_isDigit 6 = .ok (.iload_n 0, 1) := by decide +kernel
theorem dX11_isDigit_7 : decode cX11_isDigit 7 = .ok (.bipush 57, 2) := by decide +kernel
theorem dX11_isDigit_9 : decode cX11_isDigit 9 = .ok (.if_icmp .gt 7, 3) := by decide +kernel
theorem dX11_isDigit_12 : decode cX11_isDigit 12 = .ok (.iconst 1, 1) := by decide +kernel
theorem dX11_isDigit_13 : decode cX11_isDigit 13 = .ok (.goto 4, 3) := by decide +kernel
theorem dX11_isDigit_16 : decode cX11_isDigit 16 = .ok (.iconst 0, 1) := by decide +kernel
theorem dX11_isDigit_17 : decode cX11_isDigit 17 = .ok (.ireturn, 1) := by decide +kernel
theorem dX11_isLetter_0 : decode cX11_isLetter 0 = .ok (.iload_n 0, 1) := by decide +kernel
theorem dX11_isLetter_1 : decode cX11_isLetter 1 = .ok (.bipush 97, 2) := by decide +kernel
theorem dX11_isLetter_3 : decode cX11_isLetter 3 = .ok (.if_icmp .lt 13, 3) := by decide +kernel
theorem dX11_isLetter_6 : decode cX11_isLetter 6 = .ok (.iload_n 0, 1) := by decide +kernel
theorem dX11_isLetter_7 : decode cX11_isLetter 7 = .ok (.bipush 122, 2) := by decide +kernel
theorem dX11_isLetter_9 : decode cX11_isLetter 9 = .ok (.if_icmp .gt 7, 3) := by decide +kernel
theorem dX11_isLetter_12 : decode cX11_isLetter 12 = .ok (.iconst 1, 1) := by decide +kernel
theorem dX11_isLetter_13 : decode cX11_isLetter 13 = .ok (.goto 4, 3) := by decide +kernel
theorem dX11_isLetter_16 : decode cX11_isLetter 16 = .ok (.iconst 0, 1) := by decide +kernel
theorem dX11_isLetter_17 : decode cX11_isLetter 17 = .ok (.ireturn, 1) := by decide +kernel
theorem dX11_appends_0 : decode cX11_appends 0 = .ok (.iload_n 2, 1) := by decide +kernel
theorem dX11_appends_1 : decode cX11_appends 1 = .ok (.ifCond .ne 7, 3) := by decide +kernel
theorem dX11_appends_4 : decode cX11_appends 4 = .ok (.lload_n 0, 1) := by decide +kernel
theorem dX11_appends_5 : decode cX11_appends 5 = .ok (.goto 16, 3) := by decide +kernel
theorem dX11_appends_8 : decode cX11_appends 8 = .ok (.ldc2_w 109, 3) := by decide +kernel
theorem dX11_appends_11 : decode cX11_appends 11 = .ok (.lload_n 0, 1) := by decide +kernel
theorem dX11_appends_12 : decode cX11_appends 12 = .ok (.lmul, 1) := by decide +kernel
theorem dX11_appends_13 : decode cX11_appends 13 = .ok (.iload_n 2, 1) := by decide +kernel
theorem dX11_appends_14 : decode cX11_appends 14 = .ok (.bipush 97, 2) := by decide +kernel
theorem dX11_appends_16 : decode cX11_appends 16 = .ok (.isub, 1) := by decide +kernel
theorem dX11_appends_17 : decode cX11_appends 17 = .ok (.iconst 1, 1) := by decide +kernel
theorem dX11_appends_18 : decode cX11_appends 18 = .ok (.iadd, 1) := by decide +kernel
theorem dX11_appends_19 : decode cX11_appends 19 = .ok (.i2l, 1) := by decide +kernel
theorem dX11_appends_20 : decode cX11_appends 20 = .ok (.ladd, 1) := by decide +kernel
theorem dX11_appends_21 : decode cX11_appends 21 = .ok (.lreturn, 1) := by decide +kernel
theorem dX11_letters_0 : decode cX11_letters 0 = .ok (.lconst 0, 1) := by decide +kernel
theorem dX11_letters_1 : decode cX11_letters 1 = .ok (.iload_n 0, 1) := by decide +kernel
theorem dX11_letters_2 : decode cX11_letters 2 = .ok (.invokestatic 111, 3) := by decide +kernel
theorem dX11_letters_5 : decode cX11_letters 5 = .ok (.iload_n 1, 1) := by decide +kernel
theorem dX11_letters_6 : decode cX11_letters 6 = .ok (.invokestatic 111, 3) := by decide +kernel
theorem dX11_letters_9 : decode cX11_letters 9 = .ok (.iload_n 2, 1) := by decide +kernel
theorem dX11_letters_10 : decode cX11_letters 10 = .ok (.invokestatic 111, 3) := by decide +kernel
theorem dX11_letters_13 : decode cX11_letters 13 = .ok (.iload_n 3, 1) := by decide +kernel
theorem dX11_letters_14 : decode cX11_letters 14 = .ok (.invokestatic 111, 3) := by decide +kernel
theorem dX11_letters_17 : decode cX11_letters 17 = .ok (.iload 4, 2) := by decide +kernel
theorem dX11_letters_19 : decode cX11_letters 19 = .ok (.invokestatic 111, 3) := by decide +kernel
theorem dX11_letters_22 : decode cX11_letters 22 = .ok (.iload 5, 2) := by decide +kernel
theorem dX11_letters_24 : decode cX11_letters 24 = .ok (.invokestatic 111, 3) := by decide +kernel
theorem dX11_letters_27 : decode cX11_letters 27 = .ok (.iload 6, 2) := by decide +kernel
theorem dX11_letters_29 : decode cX11_letters 29 = .ok (.invokestatic 111, 3) := by decide +kernel
theorem dX11_letters_32 : decode cX11_letters 32 = .ok (.lreturn, 1) := by decide +kernel
theorem dX11_token_0 : decode cX11_token 0 = .ok (.aload_n 0, 1) := by decide +kernel
theorem dX11_token_1 : decode cX11_token 1 = .ok (.getfield 20, 3) := by decide +kernel
theorem dX11_token_4 : decode cX11_token 4 = .ok (.aload_n 0, 1) := by decide +kernel
theorem dX11_token_5 : decode cX11_token 5 = .ok (.getfield 115, 3) := by decide +kernel
theorem dX11_token_8 : decode cX11_token 8 = .ok (.iload_n 1, 1) := by decide +kernel
theorem dX11_token_9 : decode cX11_token 9 = .ok (.iastore, 1) := by decide +kernel
theorem dX11_token_10 : decode cX11_token 10 = .ok (.aload_n 0, 1) := by decide +kernel
theorem dX11_token_11 : decode cX11_token 11 = .ok (.getfield 24, 3) := by decide +kernel
theorem dX11_token_14 : decode cX11_token 14 = .ok (.aload_n 0, 1) := by decide +kernel
theorem dX11_token_15 : decode cX11_token 15 = .ok (.getfield 115, 3) := by decide +kernel
theorem dX11_token_18 : decode cX11_token 18 = .ok (.iload_n 2, 1) := by decide +kernel
theorem dX11_token_19 : decode cX11_token 19 = .ok (.iastore, 1) := by decide +kernel
theorem dX11_token_20 : decode cX11_token 20 = .ok (.aload_n 0, 1) := by decide +kernel
theorem dX11_token_21 : decode cX11_token 21 = .ok (.getfield 27, 3) := by decide +kernel
theorem dX11_token_24 : decode cX11_token 24 = .ok (.aload_n 0, 1) := by decide +kernel
theorem dX11_token_25 : decode cX11_token 25 = .ok (.getfield 115, 3) := by decide +kernel
theorem dX11_token_28 : decode cX11_token 28 = .ok (.iload_n 3, 1) := by decide +kernel
theorem dX11_token_29 : decode cX11_token 29 = .ok (.iastore, 1) := by decide +kernel
theorem dX11_token_30 : decode cX11_token 30 = .ok (.aload_n 0, 1) := by decide +kernel
theorem dX11_token_31 : decode cX11_token 31 = .ok (.getfield 30, 3) := by decide +kernel
theorem dX11_token_34 : decode cX11_token 34 = .ok (.aload_n 0, 1) := by decide +kernel
theorem dX11_token_35 : decode cX11_token 35 = .ok (.getfield 115, 3) := by decide +kernel
theorem dX11_token_38 : decode cX11_token 38 = .ok (.lload 4, 2) := by decide +kernel
theorem dX11_token_40 : decode cX11_token 40 = .ok (.lastore, 1) := by decide +kernel
theorem dX11_token_41 : decode cX11_token 41 = .ok (.aload_n 0, 1) := by decide +kernel
theorem dX11_token_42 : decode cX11_token 42 = .ok (.dup, 1) := by decide +kernel
theorem dX11_token_43 : decode cX11_token 43 = .ok (.getfield 115, 3) := by decide +kernel
theorem dX11_token_46 : decode cX11_token 46 = .ok (.iconst 1, 1) := by decide +kernel
theorem dX11_token_47 : decode cX11_token 47 = .ok (.iadd, 1) := by decide +kernel
theorem dX11_token_48 : decode cX11_token 48 = .ok (.putfield 115, 3) := by decide +kernel
theorem dX11_token_51 : decode cX11_token 51 = .ok (.return_, 1) := by decide +kernel
theorem dX11_cutsText_0 : decode cX11_cutsText 0 = .ok (.aload_n 0, 1) := by decide +kernel
theorem dX11_cutsText_1 : decode cX11_cutsText 1 = .ok (.iconst 0, 1) := by decide +kernel
theorem dX11_cutsText_2 : decode cX11_cutsText 2 = .ok (.putfield 115, 3) := by decide +kernel
theorem dX11_cutsText_5 : decode cX11_cutsText 5 = .ok (.iconst 0, 1) := by decide +kernel
theorem dX11_cutsText_6 : decode cX11_cutsText 6 = .ok (.istore_n 1, 1) := by decide +kernel
theorem dX11_cutsText_7 : decode cX11_cutsText 7 = .ok (.aload_n 0, 1) := by decide +kernel
theorem dX11_cutsText_8 : decode cX11_cutsText 8 = .ok (.getfield 115, 3) := by decide +kernel
theorem dX11_cutsText_11 : decode cX11_cutsText 11 = .ok (.sipush 400, 3) := by decide +kernel
theorem dX11_cutsText_14 : decode cX11_cutsText 14 = .ok (.if_icmp .gt 272, 3) := by decide +kernel
theorem dX11_cutsText_17 : decode cX11_cutsText 17 = .ok (.aload_n 0, 1) := by decide +kernel
theorem dX11_cutsText_18 : decode cX11_cutsText 18 = .ok (.iload_n 1, 1) := by decide +kernel
theorem dX11_cutsText_19 : decode cX11_cutsText 19 = .ok (.invokevirtual 118, 3) := by decide +kernel
theorem dX11_cutsText_22 : decode cX11_cutsText 22 = .ok (.istore_n 2, 1) := by decide +kernel
theorem dX11_cutsText_23 : decode cX11_cutsText 23 = .ok (.iload_n 1, 1) := by decide +kernel
theorem dX11_cutsText_24 : decode cX11_cutsText 24 = .ok (.aload_n 0, 1) := by decide +kernel
theorem dX11_cutsText_25 : decode cX11_cutsText 25 = .ok (.getfield 106, 3) := by decide +kernel
theorem dX11_cutsText_28 : decode cX11_cutsText 28 = .ok (.if_icmp .lt 15, 3) := by decide +kernel
theorem dX11_cutsText_31 : decode cX11_cutsText 31 = .ok (.aload_n 0, 1) := by decide +kernel
theorem dX11_cutsText_32 : decode cX11_cutsText 32 = .ok (.iconst 0, 1) := by decide +kernel
theorem dX11_cutsText_33 : decode cX11_cutsText 33 = .ok (.aload_n 0, 1) := by decide +kernel
theorem dX11_cutsText_34 : decode cX11_cutsText 34 = .ok (.getfield 106, 3) := by decide +kernel
theorem dX11_cutsText_37 : decode cX11_cutsText 37 = .ok (.iconst 0, 1) := by decide +kernel
theorem dX11_cutsText_38 : decode cX11_cutsText 38 = .ok (.lconst 0, 1) := by decide +kernel
theorem dX11_cutsText_39 : decode cX11_cutsText 39 = .ok (.invokevirtual 122, 3) := by decide +kernel
theorem dX11_cutsText_42 : decode cX11_cutsText 42 = .ok (.return_, 1) := by decide +kernel
theorem dX11_cutsText_43 : decode cX11_cutsText 43 = .ok (.iload_n 2, 1) := by decide +kernel
theorem dX11_cutsText_44 : decode cX11_cutsText 44 = .ok (.bipush 9, 2) := by decide +kernel
theorem dX11_cutsText_46 : decode cX11_cutsText 46 = .ok (.if_icmp .eq 21, 3) := by decide +kernel
theorem dX11_cutsText_49 : decode cX11_cutsText 49 = .ok (.iload_n 2, 1) := by decide +kernel
theorem dX11_cutsText_50 : decode cX11_cutsText 50 = .ok (.bipush 10, 2) := by decide +kernel
theorem dX11_cutsText_52 : decode cX11_cutsText 52 = .ok (.if_icmp .eq 15, 3) := by decide +kernel
theorem dX11_cutsText_55 : decode cX11_cutsText 55 = .ok (.iload_n 2, 1) := by decide +kernel
theorem dX11_cutsText_56 : decode cX11_cutsText 56 = .ok (.bipush 13, 2) := by decide +kernel
theorem dX11_cutsText_58 : decode cX11_cutsText 58 = .ok (.if_icmp .eq 9, 3) := by decide +kernel
theorem dX11_cutsText_61 : decode cX11_cutsText 61 = .ok (.iload_n 2, 1) := by decide +kernel
theorem dX11_cutsText_62 : decode cX11_cutsText 62 = .ok (.bipush 32, 2) := by decide +kernel
theorem dX11_cutsText_64 : decode cX11_cutsText 64 = .ok (.if_icmp .ne 9, 3) := by decide +kernel
theorem dX11_cutsText_67 : decode cX11_cutsText 67 = .ok (.iinc 1 1, 3) := by decide +kernel
theorem dX11_cutsText_70 : decode cX11_cutsText 70 = .ok (.goto 213, 3) := by decide +kernel
theorem dX11_cutsText_73 : decode cX11_cutsText 73 = .ok (.iload_n 2, 1) := by decide +kernel
theorem dX11_cutsText_74 : decode cX11_cutsText 74 = .ok (.invokestatic 126, 3) := by decide +kernel
theorem dX11_cutsText_77 : decode cX11_cutsText 77 = .ok (.ifCond .eq 118, 3) := by decide +kernel
theorem dX11_cutsText_80 : decode cX11_cutsText 80 = .ok (.iconst 0, 1) := by decide +kernel
theorem dX11_cutsText_81 : decode cX11_cutsText 81 = .ok (.istore_n 3, 1) := by decide +kernel
theorem dX11_cutsText_82 : decode cX11_cutsText 82 = .ok (.lconst 0, 1) := by decide +kernel
theorem dX11_cutsText_83 : decode cX11_cutsText 83 = .ok (.lstore 4, 2) := by decide +kernel
theorem dX11_cutsText_85 : decode cX11_cutsText 85 = .ok (.aload_n 0, 1) := by decide +kernel
theorem dX11_cutsText_86 : decode cX11_cutsText 86 = .ok (.iload_n 1, 1) := by decide +kernel
theorem dX11_cutsText_87 : decode cX11_cutsText 87 = .ok (.iload_n 3, 1) := by decide +kernel
theorem dX11_cutsText_88 : decode cX11_cutsText 88 = .ok (.iadd, 1) := by decide +kernel
theorem dX11_cutsText_89 : decode cX11_cutsText 89 = .ok (.invokevirtual 118, 3) := by decide +kernel
theorem dX11_cutsText_92 : decode cX11_cutsText 92 = .ok (.invokestatic 126, 3) := by decide +kernel
theorem dX11_cutsText_95 : decode cX11_cutsText 95 = .ok (.ifCond .eq 29, 3) := by decide +kernel
theorem dX11_cutsText_98 : decode cX11_cutsText 98 = .ok (.iload_n 3, 1) := by decide +kernel
theorem dX11_cutsText_99 : decode cX11_cutsText 99 = .ok (.bipush 8, 2) := by decide +kernel
theorem dX11_cutsText_101 : decode cX11_cutsText 101 = .ok (.if_icmp .ge 17, 3) := by decide +kernel
theorem dX11_cutsText_104 : decode cX11_cutsText 104 = .ok (.lload 4, 2) := by decide +kernel
theorem dX11_cutsText_106 : decode cX11_cutsText 106 = .ok (.aload_n 0, 1) := by decide +kernel
theorem dX11_cutsText_107 : decode cX11_cutsText 107 = .ok (.iload_n 1, 1) := by decide +kernel
theorem dX11_cutsText_108 : decode cX11_cutsText 108 = .ok (.iload_n 3, 1) := by decide +kernel
theorem dX11_cutsText_109 : decode cX11_cutsText 109 = .ok (.iadd, 1) := by decide +kernel
theorem dX11_cutsText_110 : decode cX11_cutsText 110 = .ok (.invokevirtual 118, 3) := by decide +kernel
theorem dX11_cutsText_113 : decode cX11_cutsText 113 = .ok (.invokestatic 111, 3) := by decide +kernel
theorem dX11_cutsText_116 : decode cX11_cutsText 116 = .ok (.lstore 4, 2) := by decide +kernel
theorem dX11_cutsText_118 : decode cX11_cutsText 118 = .ok (.iinc 3 1, 3) := by decide +kernel
theorem dX11_cutsText_121 : decode cX11_cutsText 121 = .ok (.goto (-36), 3) := by decide +kernel
theorem dX11_cutsText_124 : decode cX11_cutsText 124 = .ok (.iload_n 3, 1) := by decide +kernel
theorem dX11_cutsText_125 : decode cX11_cutsText 125 = .ok (.bipush 8, 2) := by decide +kernel
theorem dX11_cutsText_127 : decode cX11_cutsText 127 = .ok (.if_icmp .le 7, 3) := by decide +kernel
theorem dX11_cutsText_130 : decode cX11_cutsText 130 = .ok (.iconst 3, 1) := by decide +kernel
theorem dX11_cutsText_131 : decode cX11_cutsText 131 = .ok (.goto 4, 3) := by decide +kernel
theorem dX11_cutsText_134 : decode cX11_cutsText 134 = .ok (.iconst 1, 1) := by decide +kernel
theorem dX11_cutsText_135 : decode cX11_cutsText 135 = .ok (.istore 6, 2) := by decide +kernel
theorem dX11_cutsText_137 : decode cX11_cutsText 137 = .ok (.iload_n 3, 1) := by decide +kernel
theorem dX11_cutsText_138 : decode cX11_cutsText 138 = .ok (.bipush 8, 2) := by decide +kernel
theorem dX11_cutsText_140 : decode cX11_cutsText 140 = .ok (.if_icmp .gt 38, 3) := by decide +kernel
theorem dX11_cutsText_143 : decode cX11_cutsText 143 = .ok (.iconst 0, 1) := by decide +kernel
theorem dX11_cutsText_144 : decode cX11_cutsText 144 = .ok (.istore 7, 2) := by decide +kernel
theorem dX11_cutsText_146 : decode cX11_cutsText 146 = .ok (.iload 7, 2) := by decide +kernel
theorem dX11_cutsText_148 : decode cX11_cutsText 148 = .ok (.iconst 4, 1) := by decide +kernel
theorem dX11_cutsText_149 : decode cX11_cutsText 149 = .ok (.if_icmp .ge 29, 3) := by decide +kernel
theorem dX11_cutsText_152 : decode cX11_cutsText 152 = .ok (.aload_n 0, 1) := by decide +kernel
theorem dX11_cutsText_153 : decode cX11_cutsText 153 = .ok (.getfield 34, 3) := by decide +kernel
theorem dX11_cutsText_156 : decode cX11_cutsText 156 = .ok (.iload 7, 2) := by decide +kernel
theorem dX11_cutsText_158 : decode cX11_cutsText 158 = .ok (.laload, 1) := by decide +kernel
theorem dX11_cutsText_159 : decode cX11_cutsText 159 = .ok (.lload 4, 2) := by decide +kernel
theorem dX11_cutsText_161 : decode cX11_cutsText 161 = .ok (.lcmp, 1) := by decide +kernel
theorem dX11_cutsText_162 : decode cX11_cutsText 162 = .ok (.ifCond .ne 10, 3) := by decide +kernel
theorem dX11_cutsText_165 : decode cX11_cutsText 165 = .ok (.bipush 20, 2) := by decide +kernel
theorem dX11_cutsText_167 : decode cX11_cutsText 167 = .ok (.iload 7, 2) := by decide +kernel
theorem dX11_cutsText_169 : decode cX11_cutsText 169 = .ok (.iadd, 1) := by decide +kernel
theorem dX11_cutsText_170 : decode cX11_cutsText 170 = .ok (.istore 6, 2) := by decide +kernel
theorem dX11_cutsText_172 : decode cX11_cutsText 172 = .ok (.iinc 7 1, 3) := by decide +kernel
theorem dX11_cutsText_175 : decode cX11_cutsText 175 = .ok (.goto (-29), 3) := by decide +kernel
theorem dX11_cutsText_178 : decode cX11_cutsText 178 = .ok (.aload_n 0, 1) := by decide +kernel
theorem dX11_cutsText_179 : decode cX11_cutsText 179 = .ok (.iload 6, 2) := by decide +kernel
theorem dX11_cutsText_181 : decode cX11_cutsText 181 = .ok (.iload_n 1, 1) := by decide +kernel
theorem dX11_cutsText_182 : decode cX11_cutsText 182 = .ok (.iconst 0, 1) := by decide +kernel
theorem dX11_cutsText_183 : decode cX11_cutsText 183 = .ok (.lload 4, 2) := by decide +kernel
theorem dX11_cutsText_185 : decode cX11_cutsText 185 = .ok (.invokevirtual 122, 3) := by decide +kernel
theorem dX11_cutsText_188 : decode cX11_cutsText 188 = .ok (.iload_n 1, 1) := by decide +kernel
theorem dX11_cutsText_189 : decode cX11_cutsText 189 = .ok (.iload_n 3, 1) := by decide +kernel
theorem dX11_cutsText_190 : decode cX11_cutsText 190 = .ok (.iadd, 1) := by decide +kernel
theorem dX11_cutsText_191 : decode cX11_cutsText 191 = .ok (.istore_n 1, 1) := by decide +kernel
theorem dX11_cutsText_192 : decode cX11_cutsText 192 = .ok (.goto 91, 3) := by decide +kernel
theorem dX11_cutsText_195 : decode cX11_cutsText 195 = .ok (.iload_n 2, 1) := by decide +kernel
theorem dX11_cutsText_196 : decode cX11_cutsText 196 = .ok (.invokestatic 130, 3) := by decide +kernel
theorem dX11_cutsText_199 : decode cX11_cutsText 199 = .ok (.ifCond .eq 75, 3) := by decide +kernel
theorem dX11_cutsText_202 : decode cX11_cutsText 202 = .ok (.iconst 0, 1) := by decide +kernel
theorem dX11_cutsText_203 : decode cX11_cutsText 203 = .ok (.istore_n 3, 1) := by decide +kernel
theorem dX11_cutsText_204 : decode cX11_cutsText 204 = .ok (.iconst 0, 1) := by decide +kernel
theorem dX11_cutsText_205 : decode cX11_cutsText 205 = .ok (.istore 4, 2) := by decide +kernel
theorem dX11_cutsText_207 : decode cX11_cutsText 207 = .ok (.aload_n 0, 1) := by decide +kernel
theorem dX11_cutsText_208 : decode cX11_cutsText 208 = .ok (.iload_n 1, 1) := by decide +kernel
theorem dX11_cutsText_209 : decode cX11_cutsText 209 = .ok (.iload_n 3, 1) := by decide +kernel
theorem dX11_cutsText_210 : decode cX11_cutsText 210 = .ok (.iadd, 1) := by decide +kernel
theorem dX11_cutsText_211 : decode cX11_cutsText 211 = .ok (.invokevirtual 118, 3) := by decide +kernel
theorem dX11_cutsText_214 : decode cX11_cutsText 214 = .ok (.invokestatic 130, 3) := by decide +kernel
theorem dX11_cutsText_217 : decode cX11_cutsText 217 = .ok (.ifCond .eq 32, 3) := by decide +kernel
theorem dX11_cutsText_220 : decode cX11_cutsText 220 = .ok (.iload_n 3, 1) := by decide +kernel
theorem dX11_cutsText_221 : decode cX11_cutsText 221 = .ok (.iconst 4, 1) := by decide +kernel
theorem dX11_cutsText_222 : decode cX11_cutsText 222 = .ok (.if_icmp .ge 21, 3) := by decide +kernel
theorem dX11_cutsText_225 : decode cX11_cutsText 225 = .ok (.bipush 10, 2) := by decide +kernel
theorem dX11_cutsText_227 : decode cX11_cutsText 227 = .ok (.iload 4, 2) := by decide +kernel
theorem dX11_cutsText_229 : decode cX11_cutsText 229 = .ok (.imul, 1) := by decide +kernel
theorem dX11_cutsText_230 : decode cX11_cutsText 230 = .ok (.aload_n 0, 1) := by decide +kernel
theorem dX11_cutsText_231 : decode cX11_cutsText 231 = .ok (.iload_n 1, 1) := by decide +kernel
theorem dX11_cutsText_232 : decode cX11_cutsText 232 = .ok (.iload_n 3, 1) := by decide +kernel
theorem dX11_cutsText_233 : decode cX11_cutsText 233 = .ok (.iadd, 1) := by decide +kernel
theorem dX11_cutsText_234 : decode cX11_cutsText 234 = .ok (.invokevirtual 118, 3) := by decide +kernel
theorem dX11_cutsText_237 : decode cX11_cutsText 237 = .ok (.iadd, 1) := by decide +kernel
theorem dX11_cutsText_238 : decode cX11_cutsText 238 = .ok (.bipush 48, 2) := by decide +kernel
theorem dX11_cutsText_240 : decode cX11_cutsText 240 = .ok (.isub, 1) := by decide +kernel
theorem dX11_cutsText_241 : decode cX11_cutsText 241 = .ok (.istore 4, 2) := by decide +kernel
theorem dX11_cutsText_243 : decode cX11_cutsText 243 = .ok (.iinc 3 1, 3) := by decide +kernel
theorem dX11_cutsText_246 : decode cX11_cutsText 246 = .ok (.goto (-39), 3) := by decide +kernel
theorem dX11_cutsText_249 : decode cX11_cutsText 249 = .ok (.aload_n 0, 1) := by decide +kernel
theorem dX11_cutsText_250 : decode cX11_cutsText 250 = .ok (.iload_n 3, 1) := by decide +kernel
theorem dX11_cutsText_251 : decode cX11_cutsText 251 = .ok (.iconst 4, 1) := by decide +kernel
theorem dX11_cutsText_252 : decode cX11_cutsText 252 = .ok (.if_icmp .le 7, 3) := by decide +kernel
theorem dX11_cutsText_255 : decode cX11_cutsText 255 = .ok (.iconst 3, 1) := by decide +kernel
theorem dX11_cutsText_256 : decode cX11_cutsText 256 = .ok (.goto 4, 3) := by decide +kernel
theorem dX11_cutsText_259 : decode cX11_cutsText 259 = .ok (.iconst 2, 1) := by decide +kernel
theorem dX11_cutsText_260 : decode cX11_cutsText 260 = .ok (.iload_n 1, 1) := by decide +kernel
theorem dX11_cutsText_261 : decode cX11_cutsText 261 = .ok (.iload 4, 2) := by decide +kernel
theorem dX11_cutsText_263 : decode cX11_cutsText 263 = .ok (.lconst 0, 1) := by decide +kernel
theorem dX11_cutsText_264 : decode cX11_cutsText 264 = .ok (.invokevirtual 122, 3) := by decide +kernel
theorem dX11_cutsText_267 : decode cX11_cutsText 267 = .ok (.iload_n 1, 1) := by decide +kernel
theorem dX11_cutsText_268 : decode cX11_cutsText 268 = .ok (.iload_n 3, 1) := by decide +kernel
theorem dX11_cutsText_269 : decode cX11_cutsText 269 = .ok (.iadd, 1) := by decide +kernel
theorem dX11_cutsText_270 : decode cX11_cutsText 270 = .ok (.istore_n 1, 1) := by decide +kernel
theorem dX11_cutsText_271 : decode cX11_cutsText 271 = .ok (.goto 12, 3) := by decide +kernel
theorem dX11_cutsText_274 : decode cX11_cutsText 274 = .ok (.iload_n 1, 1) := by decide +kernel
theorem dX11_cutsText_275 : decode cX11_cutsText 275 = .ok (.aload_n 0, 1) := by decide +kernel
theorem dX11_cutsText_276 : decode cX11_cutsText 276 = .ok (.iload_n 1, 1) := by decide +kernel
theorem dX11_cutsText_277 : decode cX11_cutsText 277 = .ok (.iload_n 2, 1) := by decide +kernel
theorem dX11_cutsText_278 : decode cX11_cutsText 278 = .ok (.invokevirtual 133, 3) := by decide +kernel
theorem dX11_cutsText_281 : decode cX11_cutsText 281 = .ok (.iadd, 1) := by decide +kernel
theorem dX11_cutsText_282 : decode cX11_cutsText 282 = .ok (.istore_n 1, 1) := by decide +kernel
theorem dX11_cutsText_283 : decode cX11_cutsText 283 = .ok (.goto (-276), 3) := by decide +kernel
theorem dX11_cutsText_286 : decode cX11_cutsText 286 = .ok (.return_, 1) := by decide +kernel
theorem dX11_sign_0 : decode cX11_sign 0 = .ok (.aload_n 0, 1) := by decide +kernel
theorem dX11_sign_1 : decode cX11_sign 1 = .ok (.iload_n 2, 1) := by decide +kernel
theorem dX11_sign_2 : decode cX11_sign 2 = .ok (.bipush 59, 2) := by decide +kernel
theorem dX11_sign_4 : decode cX11_sign 4 = .ok (.if_icmp .ne 7, 3) := by decide +kernel
theorem dX11_sign_7 : decode cX11_sign 7 = .ok (.iconst 4, 1) := by decide +kernel
theorem dX11_sign_8 : decode cX11_sign 8 = .ok (.goto 4, 3) := by decide +kernel
theorem dX11_sign_11 : decode cX11_sign 11 = .ok (.iconst 3, 1) := by decide +kernel
theorem dX11_sign_12 : decode cX11_sign 12 = .ok (.iload_n 1, 1) := by decide +kernel
theorem dX11_sign_13 : decode cX11_sign 13 = .ok (.iconst 0, 1) := by decide +kernel
theorem dX11_sign_14 : decode cX11_sign 14 = .ok (.lconst 0, 1) := by decide +kernel
theorem dX11_sign_15 : decode cX11_sign 15 = .ok (.invokevirtual 122, 3) := by decide +kernel
theorem dX11_sign_18 : decode cX11_sign 18 = .ok (.iconst 1, 1) := by decide +kernel
theorem dX11_sign_19 : decode cX11_sign 19 = .ok (.ireturn, 1) := by decide +kernel
theorem dX11_is_0 : decode cX11_is 0 = .ok (.aload_n 0, 1) := by decide +kernel
theorem dX11_is_1 : decode cX11_is 1 = .ok (.getfield 137, 3) := by decide +kernel
theorem dX11_is_4 : decode cX11_is 4 = .ok (.ifCond .ne 20, 3) := by decide +kernel
theorem dX11_is_7 : decode cX11_is 7 = .ok (.aload_n 0, 1) := by decide +kernel
theorem dX11_is_8 : decode cX11_is 8 = .ok (.getfield 20, 3) := by decide +kernel
theorem dX11_is_11 : decode cX11_is 11 = .ok (.aload_n 0, 1) := by decide +kernel
theorem dX11_is_12 : decode cX11_is 12 = .ok (.getfield 140, 3) := by decide +kernel
theorem dX11_is_15 : decode cX11_is 15 = .ok (.iaload, 1) := by decide +kernel
theorem dX11_is_16 : decode cX11_is 16 = .ok (.iload_n 1, 1) := by decide +kernel
theorem dX11_is_17 : decode cX11_is 17 = .ok (.if_icmp .ne 7, 3) := by decide +kernel
theorem dX11_is_20 : decode cX11_is 20 = .ok (.iconst 1, 1) := by decide +kernel
theorem dX11_is_21 : decode cX11_is 21 = .ok (.goto 4, 3) := by decide +kernel
theorem dX11_is_24 : decode cX11_is 24 = .ok (.iconst 0, 1) := by decide +kernel
theorem dX11_is_25 : decode cX11_is 25 = .ok (.ireturn, 1) := by decide +kernel
theorem dX11_fail_0 : decode cX11_fail 0 = .ok (.aload_n 0, 1) := by decide +kernel
theorem dX11_fail_1 : decode cX11_fail 1 = .ok (.getfield 137, 3) := by decide +kernel
theorem dX11_fail_4 : decode cX11_fail 4 = .ok (.ifCond .le 4, 3) := by decide +kernel
theorem dX11_fail_7 : decode cX11_fail 7 = .ok (.return_, 1) := by decide +kernel
theorem dX11_fail_8 : decode cX11_fail 8 = .ok (.aload_n 0, 1) := by decide +kernel
theorem dX11_fail_9 : decode cX11_fail 9 = .ok (.iload_n 1, 1) := by decide +kernel
theorem dX11_fail_10 : decode cX11_fail 10 = .ok (.putfield 137, 3) := by decide +kernel
theorem dX11_fail_13 : decode cX11_fail 13 = .ok (.aload_n 0, 1) := by decide +kernel
theorem dX11_fail_14 : decode cX11_fail 14 = .ok (.aload_n 0, 1) := by decide +kernel
theorem dX11_fail_15 : decode cX11_fail 15 = .ok (.getfield 24, 3) := by decide +kernel
theorem dX11_fail_18 : decode cX11_fail 18 = .ok (.aload_n 0, 1) := by decide +kernel
theorem dX11_fail_19 : decode cX11_fail 19 = .ok (.getfield 140, 3) := by decide +kernel
theorem dX11_fail_22 : decode cX11_fail 22 = .ok (.iaload, 1) := by decide +kernel
theorem dX11_fail_23 : decode cX11_fail 23 = .ok (.putfield 143, 3) := by decide +kernel
theorem dX11_fail_26 : decode cX11_fail 26 = .ok (.return_, 1) := by decide +kernel
theorem dX11_wrong_0 : decode cX11_wrong 0 = .ok (.aload_n 0, 1) := by decide +kernel
theorem dX11_wrong_1 : decode cX11_wrong 1 = .ok (.getfield 24, 3) := by decide +kernel
theorem dX11_wrong_4 : decode cX11_wrong 4 = .ok (.iload_n 2, 1) := by decide +kernel
theorem dX11_wrong_5 : decode cX11_wrong 5 = .ok (.iaload, 1) := by decide +kernel
theorem dX11_wrong_6 : decode cX11_wrong 6 = .ok (.istore_n 3, 1) := by decide +kernel
theorem dX11_wrong_7 : decode cX11_wrong 7 = .ok (.aload_n 0, 1) := by decide +kernel
theorem dX11_wrong_8 : decode cX11_wrong 8 = .ok (.getfield 137, 3) := by decide +kernel
theorem dX11_wrong_11 : decode cX11_wrong 11 = .ok (.ifCond .gt 34, 3) := by decide +kernel
theorem dX11_wrong_14 : decode cX11_wrong 14 = .ok (.aload_n 0, 1) := by decide +kernel
theorem dX11_wrong_15 : decode cX11_wrong 15 = .ok (.getfield 146, 3) := by decide +kernel
theorem dX11_wrong_18 : decode cX11_wrong 18 = .ok (.ifCond .eq 28, 3) := by decide +kernel
theorem dX11_wrong_21 : decode cX11_wrong 21 = .ok (.iload_n 3, 1) := by decide +kernel
theorem dX11_wrong_22 : decode cX11_wrong 22 = .ok (.aload_n 0, 1) := by decide +kernel
theorem dX11_wrong_23 : decode cX11_wrong 23 = .ok (.getfield 149, 3) := by decide +kernel
theorem dX11_wrong_26 : decode cX11_wrong 26 = .ok (.if_icmp .gt 19, 3) := by decide +kernel
theorem dX11_wrong_29 : decode cX11_wrong 29 = .ok (.iload_n 3, 1) := by decide +kernel
theorem dX11_wrong_30 : decode cX11_wrong 30 = .ok (.aload_n 0, 1) := by decide +kernel
theorem dX11_wrong_31 : decode cX11_wrong 31 = .ok (.getfield 149, 3) := by decide +kernel
theorem dX11_wrong_34 : decode cX11_wrong 34 = .ok (.if_icmp .ne 12, 3) := by decide +kernel
theorem dX11_wrong_37 : decode cX11_wrong 37 = .ok (.iload_n 1, 1) := by decide +kernel
theorem dX11_wrong_38 : decode cX11_wrong 38 = .ok (.aload_n 0, 1) := by decide +kernel
theorem dX11_wrong_39 : decode cX11_wrong 39 = .ok (.getfield 146, 3) := by decide +kernel
theorem dX11_wrong_42 : decode cX11_wrong 42 = .ok (.if_icmp .lt 4, 3) := by decide +kernel
theorem dX11_wrong_45 : decode cX11_wrong 45 = .ok (.return_, 1) := by decide +kernel
theorem dX11_wrong_46 : decode cX11_wrong 46 = .ok (.aload_n 0, 1) := by decide +kernel
theorem dX11_wrong_47 : decode cX11_wrong 47 = .ok (.iload_n 1, 1) := by decide +kernel
theorem dX11_wrong_48 : decode cX11_wrong 48 = .ok (.putfield 146, 3) := by decide +kernel
theorem dX11_wrong_51 : decode cX11_wrong 51 = .ok (.aload_n 0, 1) := by decide +kernel
theorem dX11_wrong_52 : decode cX11_wrong 52 = .ok (.iload_n 3, 1) := by decide +kernel
theorem dX11_wrong_53 : decode cX11_wrong 53 = .ok (.putfield 149, 3) := by decide +kernel
theorem dX11_wrong_56 : decode cX11_wrong 56 = .ok (.return_, 1) := by decide +kernel
theorem dX11_passes_0 : decode cX11_passes 0 = .ok (.aload_n 0, 1) := by decide +kernel
theorem dX11_passes_1 : decode cX11_passes 1 = .ok (.getfield 140, 3) := by decide +kernel
theorem dX11_passes_4 : decode cX11_passes 4 = .ok (.sipush 400, 3) := by decide +kernel
theorem dX11_passes_7 : decode cX11_passes 7 = .ok (.if_icmp .ne 11, 3) := by decide +kernel
theorem dX11_passes_10 : decode cX11_passes 10 = .ok (.aload_n 0, 1) := by decide +kernel
theorem dX11_passes_11 : decode cX11_passes 11 = .ok (.iconst 2, 1) := by decide +kernel
theorem dX11_passes_12 : decode cX11_passes 12 = .ok (.invokevirtual 152, 3) := by decide +kernel
theorem dX11_passes_15 : decode cX11_passes 15 = .ok (.goto 13, 3) := by decide +kernel
theorem dX11_passes_18 : decode cX11_passes 18 = .ok (.aload_n 0, 1) := by decide +kernel
theorem dX11_passes_19 : decode cX11_passes 19 = .ok (.dup, 1) := by decide +kernel
theorem dX11_passes_20 : decode cX11_passes 20 = .ok (.getfield 140, 3) := by decide +kernel
theorem dX11_passes_23 : decode cX11_passes 23 = .ok (.iconst 1, 1) := by decide +kernel
theorem dX11_passes_24 : decode cX11_passes 24 = .ok (.iadd, 1) := by decide +kernel
theorem dX11_passes_25 : decode cX11_passes 25 = .ok (.putfield 140, 3) := by decide +kernel
theorem dX11_passes_28 : decode cX11_passes 28 = .ok (.return_, 1) := by decide +kernel
theorem dX11_must_0 : decode cX11_must 0 = .ok (.aload_n 0, 1) := by decide +kernel
theorem dX11_must_1 : decode cX11_must 1 = .ok (.iload_n 1, 1) := by decide +kernel
theorem dX11_must_2 : decode cX11_must 2 = .ok (.invokevirtual 155, 3) := by decide +kernel
theorem dX11_must_5 : decode cX11_must 5 = .ok (.ifCond .eq 10, 3) := by decide +kernel
theorem dX11_must_8 : decode cX11_must 8 = .ok (.aload_n 0, 1) := by decide +kernel
theorem dX11_must_9 : decode cX11_must 9 = .ok (.invokevirtual 158, 3) := by decide +kernel
theorem dX11_must_12 : decode cX11_must 12 = .ok (.goto 8, 3) := by decide +kernel
theorem dX11_must_15 : decode cX11_must 15 = .ok (.aload_n 0, 1) := by decide +kernel
theorem dX11_must_16 : decode cX11_must 16 = .ok (.iconst 1, 1) := by decide +kernel
theorem dX11_must_17 : decode cX11_must 17 = .ok (.invokevirtual 152, 3) := by decide +kernel
theorem dX11_must_20 : decode cX11_must 20 = .ok (.return_, 1) := by decide +kernel
theorem dX11_read_0 : decode cX11_read 0 = .ok (.aload_n 0, 1) := by decide +kernel
theorem dX11_read_1 : decode cX11_read 1 = .ok (.aload_n 0, 1) := by decide +kernel
theorem dX11_read_2 : decode cX11_read 2 = .ok (.getfield 99, 3) := by decide +kernel
theorem dX11_read_5 : decode cX11_read 5 = .ok (.putfield 106, 3) := by decide +kernel
theorem dX11_read_8 : decode cX11_read 8 = .ok (.iconst 0, 1) := by decide +kernel
theorem dX11_read_9 : decode cX11_read 9 = .ok (.istore_n 1, 1) := by decide +kernel
theorem dX11_read_10 : decode cX11_read 10 = .ok (.iload_n 1, 1) := by decide +kernel
theorem dX11_read_11 : decode cX11_read 11 = .ok (.aload_n 0, 1) := by decide +kernel
theorem dX11_read_12 : decode cX11_read 12 = .ok (.getfield 106, 3) := by decide +kernel
theorem dX11_read_15 : decode cX11_read 15 = .ok (.if_icmp .ge 21, 3) := by decide +kernel
theorem dX11_read_18 : decode cX11_read 18 = .ok (.aload_n 0, 1) := by decide +kernel
theorem dX11_read_19 : decode cX11_read 19 = .ok (.getfield 17, 3) := by decide +kernel
theorem dX11_read_22 : decode cX11_read 22 = .ok (.iload_n 1, 1) := by decide +kernel
theorem dX11_read_23 : decode cX11_read 23 = .ok (.aload_n 0, 1) := by decide +kernel
theorem dX11_read_24 : decode cX11_read 24 = .ok (.getfield 13, 3) := by decide +kernel
theorem dX11_read_27 : decode cX11_read 27 = .ok (.iload_n 1, 1) := by decide +kernel
theorem dX11_read_28 : decode cX11_read 28 = .ok (.baload, 1) := by decide +kernel
theorem dX11_read_29 : decode cX11_read 29 = .ok (.bastore, 1) := by decide +kernel
theorem dX11_read_30 : decode cX11_read 30 = .ok (.iinc 1 1, 3) := by decide +kernel
theorem dX11_read_33 : decode cX11_read 33 = .ok (.goto (-23), 3) := by decide +kernel
theorem dX11_read_36 : decode cX11_read 36 = .ok (.aload_n 0, 1) := by decide +kernel
theorem dX11_read_37 : decode cX11_read 37 = .ok (.iconst 0, 1) := by decide +kernel
theorem dX11_read_38 : decode cX11_read 38 = .ok (.putfield 99, 3) := by decide +kernel
theorem dX11_read_41 : decode cX11_read 41 = .ok (.aload_n 0, 1) := by decide +kernel
theorem dX11_read_42 : decode cX11_read 42 = .ok (.invokevirtual 161, 3) := by decide +kernel
theorem dX11_read_45 : decode cX11_read 45 = .ok (.aload_n 0, 1) := by decide +kernel
theorem dX11_read_46 : decode cX11_read 46 = .ok (.iconst 0, 1) := by decide +kernel
theorem dX11_read_47 : decode cX11_read 47 = .ok (.putfield 140, 3) := by decide +kernel
theorem dX11_read_50 : decode cX11_read 50 = .ok (.aload_n 0, 1) := by decide +kernel
theorem dX11_read_51 : decode cX11_read 51 = .ok (.iconst 0, 1) := by decide +kernel
theorem dX11_read_52 : decode cX11_read 52 = .ok (.putfield 137, 3) := by decide +kernel
theorem dX11_read_55 : decode cX11_read 55 = .ok (.aload_n 0, 1) := by decide +kernel
theorem dX11_read_56 : decode cX11_read 56 = .ok (.iconst 0, 1) := by decide +kernel
theorem dX11_read_57 : decode cX11_read 57 = .ok (.putfield 146, 3) := by decide +kernel
theorem dX11_read_60 : decode cX11_read 60 = .ok (.aload_n 0, 1) := by decide +kernel
theorem dX11_read_61 : decode cX11_read 61 = .ok (.iconst 0, 1) := by decide +kernel
theorem dX11_read_62 : decode cX11_read 62 = .ok (.putfield 164, 3) := by decide +kernel
theorem dX11_read_65 : decode cX11_read 65 = .ok (.aload_n 0, 1) := by decide +kernel
theorem dX11_read_66 : decode cX11_read 66 = .ok (.iconst 0, 1) := by decide +kernel
theorem dX11_read_67 : decode cX11_read 67 = .ok (.putfield 167, 3) := by decide +kernel
theorem dX11_read_70 : decode cX11_read 70 = .ok (.aload_n 0, 1) := by decide +kernel
theorem dX11_read_71 : decode cX11_read 71 = .ok (.getfield 137, 3) := by decide +kernel
theorem dX11_read_74 : decode cX11_read 74 = .ok (.ifCond .ne 18, 3) := by decide +kernel
theorem dX11_read_77 : decode cX11_read 77 = .ok (.aload_n 0, 1) := by decide +kernel
theorem dX11_read_78 : decode cX11_read 78 = .ok (.iconst 0, 1) := by decide +kernel
theorem dX11_read_79 : decode cX11_read 79 = .ok (.invokevirtual 155, 3) := by decide +kernel
theorem dX11_read_82 : decode cX11_read 82 = .ok (.ifCond .ne 10, 3) := by decide +kernel
theorem dX11_read_85 : decode cX11_read 85 = .ok (.aload_n 0, 1) := by decide +kernel
theorem dX11_read_86 : decode cX11_read 86 = .ok (.invokevirtual 170, 3) := by decide +kernel
theorem dX11_read_89 : decode cX11_read 89 = .ok (.goto (-19), 3) := by decide +kernel
theorem dX11_read_92 : decode cX11_read 92 = .ok (.aload_n 0, 1) := by decide +kernel
theorem dX11_read_93 : decode cX11_read 93 = .ok (.getfield 137, 3) := by decide +kernel
theorem dX11_read_96 : decode cX11_read 96 = .ok (.ifCond .ne 7, 3) := by decide +kernel
theorem dX11_read_99 : decode cX11_read 99 = .ok (.aload_n 0, 1) := by decide +kernel
theorem dX11_read_100 : decode cX11_read 100 = .ok (.invokevirtual 173, 3) := by decide +kernel
theorem dX11_read_103 : decode cX11_read 103 = .ok (.aload_n 0, 1) := by decide +kernel
theorem dX11_read_104 : decode cX11_read 104 = .ok (.aload_n 0, 1) := by decide +kernel
theorem dX11_read_105 : decode cX11_read 105 = .ok (.getfield 137, 3) := by decide +kernel
theorem dX11_read_108 : decode cX11_read 108 = .ok (.ifCond .le 10, 3) := by decide +kernel
theorem dX11_read_111 : decode cX11_read 111 = .ok (.aload_n 0, 1) := by decide +kernel
theorem dX11_read_112 : decode cX11_read 112 = .ok (.getfield 143, 3) := by decide +kernel
theorem dX11_read_115 : decode cX11_read 115 = .ok (.goto 18, 3) := by decide +kernel
theorem dX11_read_118 : decode cX11_read 118 = .ok (.aload_n 0, 1) := by decide +kernel
theorem dX11_read_119 : decode cX11_read 119 = .ok (.getfield 146, 3) := by decide +kernel
theorem dX11_read_122 : decode cX11_read 122 = .ok (.ifCond .le 10, 3) := by decide +kernel
theorem dX11_read_125 : decode cX11_read 125 = .ok (.aload_n 0, 1) := by decide +kernel
theorem dX11_read_126 : decode cX11_read 126 = .ok (.getfield 149, 3) := by decide +kernel
theorem dX11_read_129 : decode cX11_read 129 = .ok (.goto 4, 3) := by decide +kernel
theorem dX11_read_132 : decode cX11_read 132 = .ok (.iconst (-1), 1) := by decide +kernel
theorem dX11_read_133 : decode cX11_read 133 = .ok (.putfield 37, 3) := by decide +kernel
theorem dX11_read_136 : decode cX11_read 136 = .ok (.aload_n 0, 1) := by decide +kernel
theorem dX11_read_137 : decode cX11_read 137 = .ok (.getfield 137, 3) := by decide +kernel
theorem dX11_read_140 : decode cX11_read 140 = .ok (.ifCond .le 8, 3) := by decide +kernel
theorem dX11_read_143 : decode cX11_read 143 = .ok (.aload_n 0, 1) := by decide +kernel
theorem dX11_read_144 : decode cX11_read 144 = .ok (.getfield 137, 3) := by decide +kernel
theorem dX11_read_147 : decode cX11_read 147 = .ok (.ireturn, 1) := by decide +kernel
theorem dX11_read_148 : decode cX11_read 148 = .ok (.aload_n 0, 1) := by decide +kernel
theorem dX11_read_149 : decode cX11_read 149 = .ok (.getfield 146, 3) := by decide +kernel
theorem dX11_read_152 : decode cX11_read 152 = .ok (.ifCond .le 8, 3) := by decide +kernel
theorem dX11_read_155 : decode cX11_read 155 = .ok (.aload_n 0, 1) := by decide +kernel
theorem dX11_read_156 : decode cX11_read 156 = .ok (.getfield 146, 3) := by decide +kernel
theorem dX11_read_159 : decode cX11_read 159 = .ok (.ireturn, 1) := by decide +kernel
theorem dX11_read_160 : decode cX11_read 160 = .ok (.iconst 0, 1) := by decide +kernel
theorem dX11_read_161 : decode cX11_read 161 = .ok (.istore_n 1, 1) := by decide +kernel
theorem dX11_read_162 : decode cX11_read 162 = .ok (.iload_n 1, 1) := by decide +kernel
theorem dX11_read_163 : decode cX11_read 163 = .ok (.bipush 98, 2) := by decide +kernel
theorem dX11_read_165 : decode cX11_read 165 = .ok (.if_icmp .ge 21, 3) := by decide +kernel
theorem dX11_read_168 : decode cX11_read 168 = .ok (.aload_n 0, 1) := by decide +kernel
theorem dX11_read_169 : decode cX11_read 169 = .ok (.getfield 40, 3) := by decide +kernel
theorem dX11_read_172 : decode cX11_read 172 = .ok (.iload_n 1, 1) := by decide +kernel
theorem dX11_read_173 : decode cX11_read 173 = .ok (.aload_n 0, 1) := by decide +kernel
theorem dX11_read_174 : decode cX11_read 174 = .ok (.getfield 43, 3) := by decide +kernel
theorem dX11_read_177 : decode cX11_read 177 = .ok (.iload_n 1, 1) := by decide +kernel
theorem dX11_read_178 : decode cX11_read 178 = .ok (.iaload, 1) := by decide +kernel
theorem dX11_read_179 : decode cX11_read 179 = .ok (.iastore, 1) := by decide +kernel
theorem dX11_read_180 : decode cX11_read 180 = .ok (.iinc 1 1, 3) := by decide +kernel
theorem dX11_read_183 : decode cX11_read 183 = .ok (.goto (-21), 3) := by decide +kernel
theorem dX11_read_186 : decode cX11_read 186 = .ok (.aload_n 0, 1) := by decide +kernel
theorem dX11_read_187 : decode cX11_read 187 = .ok (.iconst 0, 1) := by decide +kernel
theorem dX11_read_188 : decode cX11_read 188 = .ok (.putfield 176, 3) := by decide +kernel
theorem dX11_read_191 : decode cX11_read 191 = .ok (.iconst 0, 1) := by decide +kernel
theorem dX11_read_192 : decode cX11_read 192 = .ok (.istore_n 1, 1) := by decide +kernel
theorem dX11_read_193 : decode cX11_read 193 = .ok (.iload_n 1, 1) := by decide +kernel
theorem dX11_read_194 : decode cX11_read 194 = .ok (.iconst 3, 1) := by decide +kernel
theorem dX11_read_195 : decode cX11_read 195 = .ok (.if_icmp .ge 16, 3) := by decide +kernel
theorem dX11_read_198 : decode cX11_read 198 = .ok (.aload_n 0, 1) := by decide +kernel
theorem dX11_read_199 : decode cX11_read 199 = .ok (.getfield 55, 3) := by decide +kernel
theorem dX11_read_202 : decode cX11_read 202 = .ok (.iload_n 1, 1) := by decide +kernel
theorem dX11_read_203 : decode cX11_read 203 = .ok (.iconst 0, 1) := by decide +kernel
theorem dX11_read_204 : decode cX11_read 204 = .ok (.bastore, 1) := by decide +kernel
theorem dX11_read_205 : decode cX11_read 205 = .ok (.iinc 1 1, 3) := by decide +kernel
theorem dX11_read_208 : decode cX11_read 208 = .ok (.goto (-15), 3) := by decide +kernel
theorem dX11_read_211 : decode cX11_read 211 = .ok (.iconst 0, 1) := by decide +kernel
theorem dX11_read_212 : decode cX11_read 212 = .ok (.ireturn, 1) := by decide +kernel
theorem dX11_place_0 : decode cX11_place 0 = .ok (.aload_n 0, 1) := by decide +kernel
theorem dX11_place_1 : decode cX11_place 1 = .ok (.getfield 37, 3) := by decide +kernel
theorem dX11_place_4 : decode cX11_place 4 = .ok (.ireturn, 1) := by decide +kernel
theorem dX11_tell_0 : decode cX11_tell 0 = .ok (.aload_n 0, 1) := by decide +kernel
theorem dX11_tell_1 : decode cX11_tell 1 = .ok (.bipush 20, 2) := by decide +kernel
theorem dX11_tell_3 : decode cX11_tell 3 = .ok (.invokevirtual 155, 3) := by decide +kernel
theorem dX11_tell_6 : decode cX11_tell 6 = .ok (.ifCond .eq 40, 3) := by decide +kernel
theorem dX11_tell_9 : decode cX11_tell 9 = .ok (.aload_n 0, 1) := by decide +kernel
theorem dX11_tell_10 : decode cX11_tell 10 = .ok (.getfield 164, 3) := by decide +kernel
theorem dX11_tell_13 : decode cX11_tell 13 = .ok (.bipush 6, 2) := by decide +kernel
theorem dX11_tell_15 : decode cX11_tell 15 = .ok (.if_icmp .ne 9, 3) := by decide +kernel
theorem dX11_tell_18 : decode cX11_tell 18 = .ok (.aload_n 0, 1) := by decide +kernel
theorem dX11_tell_19 : decode cX11_tell 19 = .ok (.iconst 2, 1) := by decide +kernel
theorem dX11_tell_20 : decode cX11_tell 20 = .ok (.invokevirtual 152, 3) := by decide +kernel
theorem dX11_tell_23 : decode cX11_tell 23 = .ok (.return_, 1) := by decide +kernel
theorem dX11_tell_24 : decode cX11_tell 24 = .ok (.aload_n 0, 1) := by decide +kernel
theorem dX11_tell_25 : decode cX11_tell 25 = .ok (.dup, 1) := by decide +kernel
theorem dX11_tell_26 : decode cX11_tell 26 = .ok (.getfield 164, 3) := by decide +kernel
theorem dX11_tell_29 : decode cX11_tell 29 = .ok (.iconst 1, 1) := by decide +kernel
theorem dX11_tell_30 : decode cX11_tell 30 = .ok (.iadd, 1) := by decide +kernel
theorem dX11_tell_31 : decode cX11_tell 31 = .ok (.putfield 164, 3) := by decide +kernel
theorem dX11_tell_34 : decode cX11_tell 34 = .ok (.aload_n 0, 1) := by decide +kernel
theorem dX11_tell_35 : decode cX11_tell 35 = .ok (.invokevirtual 158, 3) := by decide +kernel
theorem dX11_tell_38 : decode cX11_tell 38 = .ok (.aload_n 0, 1) := by decide +kernel
theorem dX11_tell_39 : decode cX11_tell 39 = .ok (.iconst 1, 1) := by decide +kernel
theorem dX11_tell_40 : decode cX11_tell 40 = .ok (.invokevirtual 179, 3) := by decide +kernel
theorem dX11_tell_43 : decode cX11_tell 43 = .ok (.goto 111, 3) := by decide +kernel
theorem dX11_tell_46 : decode cX11_tell 46 = .ok (.aload_n 0, 1) := by decide +kernel
theorem dX11_tell_47 : decode cX11_tell 47 = .ok (.bipush 21, 2) := by decide +kernel
theorem dX11_tell_49 : decode cX11_tell 49 = .ok (.invokevirtual 155, 3) := by decide +kernel
theorem dX11_tell_52 : decode cX11_tell 52 = .ok (.ifCond .eq 58, 3) := by decide +kernel
theorem dX11_tell_55 : decode cX11_tell 55 = .ok (.aload_n 0, 1) := by decide +kernel
theorem dX11_tell_56 : decode cX11_tell 56 = .ok (.getfield 167, 3) := by decide +kernel
theorem dX11_tell_59 : decode cX11_tell 59 = .ok (.bipush 10, 2) := by decide +kernel
theorem dX11_tell_61 : decode cX11_tell 61 = .ok (.if_icmp .ne 9, 3) := by decide +kernel
theorem dX11_tell_64 : decode cX11_tell 64 = .ok (.aload_n 0, 1) := by decide +kernel
theorem dX11_tell_65 : decode cX11_tell 65 = .ok (.iconst 2, 1) := by decide +kernel
theorem dX11_tell_66 : decode cX11_tell 66 = .ok (.invokevirtual 152, 3) := by decide +kernel
theorem dX11_tell_69 : decode cX11_tell 69 = .ok (.return_, 1) := by decide +kernel
theorem dX11_tell_70 : decode cX11_tell 70 = .ok (.aload_n 0, 1) := by decide +kernel
theorem dX11_tell_71 : decode cX11_tell 71 = .ok (.dup, 1) := by decide +kernel
theorem dX11_tell_72 : decode cX11_tell 72 = .ok (.getfield 167, 3) := by decide +kernel
theorem dX11_tell_75 : decode cX11_tell 75 = .ok (.iconst 1, 1) := by decide +kernel
theorem dX11_tell_76 : decode cX11_tell 76 = .ok (.iadd, 1) := by decide +kernel
theorem dX11_tell_77 : decode cX11_tell 77 = .ok (.putfield 167, 3) := by decide +kernel
theorem dX11_tell_80 : decode cX11_tell 80 = .ok (.aload_n 0, 1) := by decide +kernel
theorem dX11_tell_81 : decode cX11_tell 81 = .ok (.invokevirtual 158, 3) := by decide +kernel
theorem dX11_tell_84 : decode cX11_tell 84 = .ok (.aload_n 0, 1) := by decide +kernel
theorem dX11_tell_85 : decode cX11_tell 85 = .ok (.iconst 1, 1) := by decide +kernel
theorem dX11_tell_86 : decode cX11_tell 86 = .ok (.invokevirtual 179, 3) := by decide +kernel
theorem dX11_tell_89 : decode cX11_tell 89 = .ok (.aload_n 0, 1) := by decide +kernel
theorem dX11_tell_90 : decode cX11_tell 90 = .ok (.iconst 1, 1) := by decide +kernel
theorem dX11_tell_91 : decode cX11_tell 91 = .ok (.invokevirtual 179, 3) := by decide +kernel
theorem dX11_tell_94 : decode cX11_tell 94 = .ok (.aload_n 0, 1) := by decide +kernel
theorem dX11_tell_95 : decode cX11_tell 95 = .ok (.bipush 22, 2) := by decide +kernel
theorem dX11_tell_97 : decode cX11_tell 97 = .ok (.invokevirtual 155, 3) := by decide +kernel
theorem dX11_tell_100 : decode cX11_tell 100 = .ok (.ifCond .eq 54, 3) := by decide +kernel
theorem dX11_tell_103 : decode cX11_tell 103 = .ok (.aload_n 0, 1) := by decide +kernel
theorem dX11_tell_104 : decode cX11_tell 104 = .ok (.invokevirtual 158, 3) := by decide +kernel
theorem dX11_tell_107 : decode cX11_tell 107 = .ok (.goto 47, 3) := by decide +kernel
theorem dX11_tell_110 : decode cX11_tell 110 = .ok (.aload_n 0, 1) := by decide +kernel
theorem dX11_tell_111 : decode cX11_tell 111 = .ok (.bipush 23, 2) := by decide +kernel
theorem dX11_tell_113 : decode cX11_tell 113 = .ok (.invokevirtual 155, 3) := by decide +kernel
theorem dX11_tell_116 : decode cX11_tell 116 = .ok (.ifCond .eq 32, 3) := by decide +kernel
theorem dX11_tell_119 : decode cX11_tell 119 = .ok (.aload_n 0, 1) := by decide +kernel
theorem dX11_tell_120 : decode cX11_tell 120 = .ok (.invokevirtual 158, 3) := by decide +kernel
theorem dX11_tell_123 : decode cX11_tell 123 = .ok (.aload_n 0, 1) := by decide +kernel
theorem dX11_tell_124 : decode cX11_tell 124 = .ok (.iconst 1, 1) := by decide +kernel
theorem dX11_tell_125 : decode cX11_tell 125 = .ok (.invokevirtual 179, 3) := by decide +kernel
theorem dX11_tell_128 : decode cX11_tell 128 = .ok (.aload_n 0, 1) := by decide +kernel
theorem dX11_tell_129 : decode cX11_tell 129 = .ok (.iconst 2, 1) := by decide +kernel
theorem dX11_tell_130 : decode cX11_tell 130 = .ok (.invokevirtual 179, 3) := by decide +kernel
theorem dX11_tell_133 : decode cX11_tell 133 = .ok (.aload_n 0, 1) := by decide +kernel
theorem dX11_tell_134 : decode cX11_tell 134 = .ok (.iconst 2, 1) := by decide +kernel
theorem dX11_tell_135 : decode cX11_tell 135 = .ok (.invokevirtual 155, 3) := by decide +kernel
theorem dX11_tell_138 : decode cX11_tell 138 = .ok (.ifCond .eq 16, 3) := by decide +kernel
theorem dX11_tell_141 : decode cX11_tell 141 = .ok (.aload_n 0, 1) := by decide +kernel
theorem dX11_tell_142 : decode cX11_tell 142 = .ok (.invokevirtual 158, 3) := by decide +kernel
theorem dX11_tell_145 : decode cX11_tell 145 = .ok (.goto (-12), 3) := by decide +kernel
theorem dX11_tell_148 : decode cX11_tell 148 = .ok (.aload_n 0, 1) := by decide +kernel
theorem dX11_tell_149 : decode cX11_tell 149 = .ok (.iconst 1, 1) := by decide +kernel
theorem dX11_tell_150 : decode cX11_tell 150 = .ok (.invokevirtual 152, 3) := by decide +kernel
theorem dX11_tell_153 : decode cX11_tell 153 = .ok (.return_, 1) := by decide +kernel
theorem dX11_tell_154 : decode cX11_tell 154 = .ok (.aload_n 0, 1) := by decide +kernel
theorem dX11_tell_155 : decode cX11_tell 155 = .ok (.iconst 4, 1) := by decide +kernel
theorem dX11_tell_156 : decode cX11_tell 156 = .ok (.invokevirtual 179, 3) := by decide +kernel
theorem dX11_tell_159 : decode cX11_tell 159 = .ok (.return_, 1) := by decide +kernel
theorem dX11_named_0 : decode cX11_named 0 = .ok (.iconst 0, 1) := by decide +kernel
theorem dX11_named_1 : decode cX11_named 1 = .ok (.istore_n 3, 1) := by decide +kernel
theorem dX11_named_2 : decode cX11_named 2 = .ok (.iload_n 3, 1) := by decide +kernel
theorem dX11_named_3 : decode cX11_named 3 = .ok (.aload_n 0, 1) := by decide +kernel
theorem dX11_named_4 : decode cX11_named 4 = .ok (.getfield 164, 3) := by decide +kernel
theorem dX11_named_7 : decode cX11_named 7 = .ok (.if_icmp .ge 22, 3) := by decide +kernel
theorem dX11_named_10 : decode cX11_named 10 = .ok (.aload_n 0, 1) := by decide +kernel
theorem dX11_named_11 : decode cX11_named 11 = .ok (.getfield 46, 3) := by decide +kernel
theorem dX11_named_14 : decode cX11_named 14 = .ok (.iload_n 3, 1) := by decide +kernel
theorem dX11_named_15 : decode cX11_named 15 = .ok (.laload, 1) := by decide +kernel
theorem dX11_named_16 : decode cX11_named 16 = .ok (.lload_n 1, 1) := by decide +kernel
theorem dX11_named_17 : decode cX11_named 17 = .ok (.lcmp, 1) := by decide +kernel
theorem dX11_named_18 : decode cX11_named 18 = .ok (.ifCond .ne 5, 3) := by decide +kernel
theorem dX11_named_21 : decode cX11_named 21 = .ok (.iload_n 3, 1) := by decide +kernel
theorem dX11_named_22 : decode cX11_named 22 = .ok (.ireturn, 1) := by decide +kernel
theorem dX11_named_23 : decode cX11_named 23 = .ok (.iinc 3 1, 3) := by decide +kernel
theorem dX11_named_26 : decode cX11_named 26 = .ok (.goto (-24), 3) := by decide +kernel
theorem dX11_named_29 : decode cX11_named 29 = .ok (.iconst (-1), 1) := by decide +kernel
theorem dX11_named_30 : decode cX11_named 30 = .ok (.ireturn, 1) := by decide +kernel
theorem dX11_means_0 : decode cX11_means 0 = .ok (.iconst 0, 1) := by decide +kernel
theorem dX11_means_1 : decode cX11_means 1 = .ok (.istore_n 1, 1) := by decide +kernel
theorem dX11_means_2 : decode cX11_means 2 = .ok (.iload_n 1, 1) := by decide +kernel
theorem dX11_means_3 : decode cX11_means 3 = .ok (.bipush 98, 2) := by decide +kernel
theorem dX11_means_5 : decode cX11_means 5 = .ok (.if_icmp .ge 16, 3) := by decide +kernel
theorem dX11_means_8 : decode cX11_means 8 = .ok (.aload_n 0, 1) := by decide +kernel
theorem dX11_means_9 : decode cX11_means 9 = .ok (.getfield 43, 3) := by decide +kernel
theorem dX11_means_12 : decode cX11_means 12 = .ok (.iload_n 1, 1) := by decide +kernel
theorem dX11_means_13 : decode cX11_means 13 = .ok (.iconst 0, 1) := by decide +kernel
theorem dX11_means_14 : decode cX11_means 14 = .ok (.iastore, 1) := by decide +kernel
theorem dX11_means_15 : decode cX11_means 15 = .ok (.iinc 1 1, 3) := by decide +kernel
theorem dX11_means_18 : decode cX11_means 18 = .ok (.goto (-16), 3) := by decide +kernel
theorem dX11_means_21 : decode cX11_means 21 = .ok (.aload_n 0, 1) := by decide +kernel
theorem dX11_means_22 : decode cX11_means 22 = .ok (.iconst 0, 1) := by decide +kernel
theorem dX11_means_23 : decode cX11_means 23 = .ok (.putfield 164, 3) := by decide +kernel
theorem dX11_means_26 : decode cX11_means 26 = .ok (.aload_n 0, 1) := by decide +kernel
theorem dX11_means_27 : decode cX11_means 27 = .ok (.iconst 0, 1) := by decide +kernel
theorem dX11_means_28 : decode cX11_means 28 = .ok (.putfield 167, 3) := by decide +kernel
theorem dX11_means_31 : decode cX11_means 31 = .ok (.iconst 0, 1) := by decide +kernel
theorem dX11_means_32 : decode cX11_means 32 = .ok (.istore_n 1, 1) := by decide +kernel
theorem dX11_means_33 : decode cX11_means 33 = .ok (.iload_n 1, 1) := by decide +kernel
theorem dX11_means_34 : decode cX11_means 34 = .ok (.aload_n 0, 1) := by decide +kernel
theorem dX11_means_35 : decode cX11_means 35 = .ok (.getfield 115, 3) := by decide +kernel
theorem dX11_means_38 : decode cX11_means 38 = .ok (.if_icmp .ge 73, 3) := by decide +kernel
theorem dX11_means_41 : decode cX11_means 41 = .ok (.aload_n 0, 1) := by decide +kernel
theorem dX11_means_42 : decode cX11_means 42 = .ok (.getfield 20, 3) := by decide +kernel
theorem dX11_means_45 : decode cX11_means 45 = .ok (.iload_n 1, 1) := by decide +kernel
theorem dX11_means_46 : decode cX11_means 46 = .ok (.iaload, 1) := by decide +kernel
theorem dX11_means_47 : decode cX11_means 47 = .ok (.bipush 20, 2) := by decide +kernel
theorem dX11_means_49 : decode cX11_means 49 = .ok (.if_icmp .eq 6, 3) := by decide +kernel
theorem dX11_means_52 : decode cX11_means 52 = .ok (.goto 53, 3) := by decide +kernel
theorem dX11_means_55 : decode cX11_means 55 = .ok (.aload_n 0, 1) := by decide +kernel
theorem dX11_means_56 : decode cX11_means 56 = .ok (.aload_n 0, 1) := by decide +kernel
theorem dX11_means_57 : decode cX11_means 57 = .ok (.getfield 30, 3) := by decide +kernel
theorem dX11_means_60 : decode cX11_means 60 = .ok (.iload_n 1, 1) := by decide +kernel
theorem dX11_means_61 : decode cX11_means 61 = .ok (.iconst 1, 1) := by decide +kernel
theorem dX11_means_62 : decode cX11_means 62 = .ok (.iadd, 1) := by decide +kernel
theorem dX11_means_63 : decode cX11_means 63 = .ok (.laload, 1) := by decide +kernel
theorem dX11_means_64 : decode cX11_means 64 = .ok (.invokevirtual 182, 3) := by decide +kernel
theorem dX11_means_67 : decode cX11_means 67 = .ok (.ifCond .lt 11, 3) := by decide +kernel
theorem dX11_means_70 : decode cX11_means 70 = .ok (.aload_n 0, 1) := by decide +kernel
theorem dX11_means_71 : decode cX11_means 71 = .ok (.iconst 3, 1) := by decide +kernel
theorem dX11_means_72 : decode cX11_means 72 = .ok (.iload_n 1, 1) := by decide +kernel
theorem dX11_means_73 : decode cX11_means 73 = .ok (.iconst 1, 1) := by decide +kernel
theorem dX11_means_74 : decode cX11_means 74 = .ok (.iadd, 1) := by decide +kernel
theorem dX11_means_75 : decode cX11_means 75 = .ok (.invokevirtual 186, 3) := by decide +kernel
theorem dX11_means_78 : decode cX11_means 78 = .ok (.aload_n 0, 1) := by decide +kernel
theorem dX11_means_79 : decode cX11_means 79 = .ok (.getfield 46, 3) := by decide +kernel
theorem dX11_means_82 : decode cX11_means 82 = .ok (.aload_n 0, 1) := by decide +kernel
theorem dX11_means_83 : decode cX11_means 83 = .ok (.getfield 164, 3) := by decide +kernel
theorem dX11_means_86 : decode cX11_means 86 = .ok (.aload_n 0, 1) := by decide +kernel
theorem dX11_means_87 : decode cX11_means 87 = .ok (.getfield 30, 3) := by decide +kernel
theorem dX11_means_90 : decode cX11_means 90 = .ok (.iload_n 1, 1) := by decide +kernel
theorem dX11_means_91 : decode cX11_means 91 = .ok (.iconst 1, 1) := by decide +kernel
theorem dX11_means_92 : decode cX11_means 92 = .ok (.iadd, 1) := by decide +kernel
theorem dX11_means_93 : decode cX11_means 93 = .ok (.laload, 1) := by decide +kernel
theorem dX11_means_94 : decode cX11_means 94 = .ok (.lastore, 1) := by decide +kernel
theorem dX11_means_95 : decode cX11_means 95 = .ok (.aload_n 0, 1) := by decide +kernel
theorem dX11_means_96 : decode cX11_means 96 = .ok (.dup, 1) := by decide +kernel
theorem dX11_means_97 : decode cX11_means 97 = .ok (.getfield 164, 3) := by decide +kernel
theorem dX11_means_100 : decode cX11_means 100 = .ok (.iconst 1, 1) := by decide +kernel
theorem dX11_means_101 : decode cX11_means 101 = .ok (.iadd, 1) := by decide +kernel
theorem dX11_means_102 : decode cX11_means 102 = .ok (.putfield 164, 3) := by decide +kernel
theorem dX11_means_105 : decode cX11_means 105 = .ok (.iinc 1 1, 3) := by decide +kernel
theorem dX11_means_108 : decode cX11_means 108 = .ok (.goto (-75), 3) := by decide +kernel
theorem dX11_means_111 : decode cX11_means 111 = .ok (.iconst 0, 1) := by decide +kernel
theorem dX11_means_112 : decode cX11_means 112 = .ok (.istore_n 1, 1) := by decide +kernel
theorem dX11_means_113 : decode cX11_means 113 = .ok (.iload_n 1, 1) := by decide +kernel
theorem dX11_means_114 : decode cX11_means 114 = .ok (.aload_n 0, 1) := by decide +kernel
theorem dX11_means_115 : decode cX11_means 115 = .ok (.getfield 115, 3) := by decide +kernel
theorem dX11_means_118 : decode cX11_means 118 = .ok (.if_icmp .ge 25, 3) := by decide +kernel
theorem dX11_means_121 : decode cX11_means 121 = .ok (.aload_n 0, 1) := by decide +kernel
theorem dX11_means_122 : decode cX11_means 122 = .ok (.getfield 20, 3) := by decide +kernel
theorem dX11_means_125 : decode cX11_means 125 = .ok (.iload_n 1, 1) := by decide +kernel
theorem dX11_means_126 : decode cX11_means 126 = .ok (.iaload, 1) := by decide +kernel
theorem dX11_means_127 : decode cX11_means 127 = .ok (.bipush 21, 2) := by decide +kernel
theorem dX11_means_129 : decode cX11_means 129 = .ok (.if_icmp .ne 8, 3) := by decide +kernel
theorem dX11_means_132 : decode cX11_means 132 = .ok (.aload_n 0, 1) := by decide +kernel
theorem dX11_means_133 : decode cX11_means 133 = .ok (.iload_n 1, 1) := by decide +kernel
theorem dX11_means_134 : decode cX11_means 134 = .ok (.invokevirtual 190, 3) := by decide +kernel
theorem dX11_means_137 : decode cX11_means 137 = .ok (.iinc 1 1, 3) := by decide +kernel
theorem dX11_means_140 : decode cX11_means 140 = .ok (.goto (-27), 3) := by decide +kernel
theorem dX11_means_143 : decode cX11_means 143 = .ok (.aload_n 0, 1) := by decide +kernel
theorem dX11_means_144 : decode cX11_means 144 = .ok (.getfield 43, 3) := by decide +kernel
theorem dX11_means_147 : decode cX11_means 147 = .ok (.iconst 0, 1) := by decide +kernel
theorem dX11_means_148 : decode cX11_means 148 = .ok (.aload_n 0, 1) := by decide +kernel
theorem dX11_means_149 : decode cX11_means 149 = .ok (.getfield 164, 3) := by decide +kernel
theorem dX11_means_152 : decode cX11_means 152 = .ok (.iastore, 1) := by decide +kernel
theorem dX11_means_153 : decode cX11_means 153 = .ok (.aload_n 0, 1) := by decide +kernel
theorem dX11_means_154 : decode cX11_means 154 = .ok (.getfield 43, 3) := by decide +kernel
theorem dX11_means_157 : decode cX11_means 157 = .ok (.iconst 1, 1) := by decide +kernel
theorem dX11_means_158 : decode cX11_means 158 = .ok (.aload_n 0, 1) := by decide +kernel
theorem dX11_means_159 : decode cX11_means 159 = .ok (.getfield 167, 3) := by decide +kernel
theorem dX11_means_162 : decode cX11_means 162 = .ok (.iastore, 1) := by decide +kernel
theorem dX11_means_163 : decode cX11_means 163 = .ok (.iconst 0, 1) := by decide +kernel
theorem dX11_means_164 : decode cX11_means 164 = .ok (.istore_n 1, 1) := by decide +kernel
theorem dX11_means_165 : decode cX11_means 165 = .ok (.iload_n 1, 1) := by decide +kernel
theorem dX11_means_166 : decode cX11_means 166 = .ok (.aload_n 0, 1) := by decide +kernel
theorem dX11_means_167 : decode cX11_means 167 = .ok (.getfield 164, 3) := by decide +kernel
theorem dX11_means_170 : decode cX11_means 170 = .ok (.if_icmp .ge 64, 3) := by decide +kernel
theorem dX11_means_173 : decode cX11_means 173 = .ok (.iconst 0, 1) := by decide +kernel
theorem dX11_means_174 : decode cX11_means 174 = .ok (.istore_n 2, 1) := by decide +kernel
theorem dX11_means_175 : decode cX11_means 175 = .ok (.iload_n 2, 1) := by decide +kernel
theorem dX11_means_176 : decode cX11_means 176 = .ok (.aload_n 0, 1) := by decide +kernel
theorem dX11_means_177 : decode cX11_means 177 = .ok (.getfield 167, 3) := by decide +kernel
theorem dX11_means_180 : decode cX11_means 180 = .ok (.if_icmp .ge 48, 3) := by decide +kernel
theorem dX11_means_183 : decode cX11_means 183 = .ok (.aload_n 0, 1) := by decide +kernel
theorem dX11_means_184 : decode cX11_means 184 = .ok (.getfield 43, 3) := by decide +kernel
theorem dX11_means_187 : decode cX11_means 187 = .ok (.iconst 2, 1) := by decide +kernel
theorem dX11_means_188 : decode cX11_means 188 = .ok (.iconst 2, 1) := by decide +kernel
theorem dX11_means_189 : decode cX11_means 189 = .ok (.iload_n 2, 1) := by decide +kernel
theorem dX11_means_190 : decode cX11_means 190 = .ok (.imul, 1) := by decide +kernel
theorem dX11_means_191 : decode cX11_means 191 = .ok (.iadd, 1) := by decide +kernel
theorem dX11_means_192 : decode cX11_means 192 = .ok (.iaload, 1) := by decide +kernel
theorem dX11_means_193 : decode cX11_means 193 = .ok (.iload_n 1, 1) := by decide +kernel
theorem dX11_means_194 : decode cX11_means 194 = .ok (.if_icmp .eq 19, 3) := by decide +kernel
theorem dX11_means_197 : decode cX11_means 197 = .ok (.aload_n 0, 1) := by decide +kernel
theorem dX11_means_198 : decode cX11_means 198 = .ok (.getfield 43, 3) := by decide +kernel
theorem dX11_means_201 : decode cX11_means 201 = .ok (.iconst 2, 1) := by decide +kernel
theorem dX11_means_202 : decode cX11_means 202 = .ok (.iconst 2, 1) := by decide +kernel
theorem dX11_means_203 : decode cX11_means 203 = .ok (.iload_n 2, 1) := by decide +kernel
theorem dX11_means_204 : decode cX11_means 204 = .ok (.imul, 1) := by decide +kernel
theorem dX11_means_205 : decode cX11_means 205 = .ok (.iadd, 1) := by decide +kernel
theorem dX11_means_206 : decode cX11_means 206 = .ok (.iconst 1, 1) := by decide +kernel
theorem dX11_means_207 : decode cX11_means 207 = .ok (.iadd, 1) := by decide +kernel
theorem dX11_means_208 : decode cX11_means 208 = .ok (.iaload, 1) := by decide +kernel
theorem dX11_means_209 : decode cX11_means 209 = .ok (.iload_n 1, 1) := by decide +kernel
theorem dX11_means_210 : decode cX11_means 210 = .ok (.if_icmp .ne 12, 3) := by decide +kernel
theorem dX11_means_213 : decode cX11_means 213 = .ok (.aload_n 0, 1) := by decide +kernel
theorem dX11_means_214 : decode cX11_means 214 = .ok (.getfield 43, 3) := by decide +kernel
theorem dX11_means_217 : decode cX11_means 217 = .ok (.iload_n 1, 1) := by decide +kernel
theorem dX11_means_218 : decode cX11_means 218 = .ok (.iload_n 2, 1) := by decide +kernel
theorem dX11_means_219 : decode cX11_means 219 = .ok (.invokestatic 193, 3) := by decide +kernel
theorem dX11_means_222 : decode cX11_means 222 = .ok (.iinc 2 1, 3) := by decide +kernel
theorem dX11_means_225 : decode cX11_means 225 = .ok (.goto (-50), 3) := by decide +kernel
theorem dX11_means_228 : decode cX11_means 228 = .ok (.iinc 1 1, 3) := by decide +kernel
theorem dX11_means_231 : decode cX11_means 231 = .ok (.goto (-66), 3) := by decide +kernel
theorem dX11_means_234 : decode cX11_means 234 = .ok (.iconst 0, 1) := by decide +kernel
theorem dX11_means_235 : decode cX11_means 235 = .ok (.istore_n 1, 1) := by decide +kernel
theorem dX11_means_236 : decode cX11_means 236 = .ok (.iload_n 1, 1) := by decide +kernel
theorem dX11_means_237 : decode cX11_means 237 = .ok (.aload_n 0, 1) := by decide +kernel
theorem dX11_means_238 : decode cX11_means 238 = .ok (.getfield 115, 3) := by decide +kernel
theorem dX11_means_241 : decode cX11_means 241 = .ok (.if_icmp .ge 25, 3) := by decide +kernel
theorem dX11_means_244 : decode cX11_means 244 = .ok (.aload_n 0, 1) := by decide +kernel
theorem dX11_means_245 : decode cX11_means 245 = .ok (.getfield 20, 3) := by decide +kernel
theorem dX11_means_248 : decode cX11_means 248 = .ok (.iload_n 1, 1) := by decide +kernel
theorem dX11_means_249 : decode cX11_means 249 = .ok (.iaload, 1) := by decide +kernel
theorem dX11_means_250 : decode cX11_means 250 = .ok (.bipush 23, 2) := by decide +kernel
theorem dX11_means_252 : decode cX11_means 252 = .ok (.if_icmp .ne 8, 3) := by decide +kernel
theorem dX11_means_255 : decode cX11_means 255 = .ok (.aload_n 0, 1) := by decide +kernel
theorem dX11_means_256 : decode cX11_means 256 = .ok (.iload_n 1, 1) := by decide +kernel
theorem dX11_means_257 : decode cX11_means 257 = .ok (.invokevirtual 197, 3) := by decide +kernel
theorem dX11_means_260 : decode cX11_means 260 = .ok (.iinc 1 1, 3) := by decide +kernel
theorem dX11_means_263 : decode cX11_means 263 = .ok (.goto (-27), 3) := by decide +kernel
theorem dX11_means_266 : decode cX11_means 266 = .ok (.return_, 1) := by decide +kernel
theorem dX11_adds_0 : decode cX11_adds 0 = .ok (.aload_n 0, 1) := by decide +kernel
theorem dX11_adds_1 : decode cX11_adds 1 = .ok (.bipush 38, 2) := by decide +kernel
theorem dX11_adds_3 : decode cX11_adds 3 = .ok (.bipush 10, 2) := by decide +kernel
theorem dX11_adds_5 : decode cX11_adds 5 = .ok (.iload_n 1, 1) := by decide +kernel
theorem dX11_adds_6 : decode cX11_adds 6 = .ok (.imul, 1) := by decide +kernel
theorem dX11_adds_7 : decode cX11_adds 7 = .ok (.iadd, 1) := by decide +kernel
theorem dX11_adds_8 : decode cX11_adds 8 = .ok (.aload_n 0, 1) := by decide +kernel
theorem dX11_adds_9 : decode cX11_adds 9 = .ok (.bipush 32, 2) := by decide +kernel
theorem dX11_adds_11 : decode cX11_adds 11 = .ok (.iload_n 1, 1) := by decide +kernel
theorem dX11_adds_12 : decode cX11_adds 12 = .ok (.iadd, 1) := by decide +kernel
theorem dX11_adds_13 : decode cX11_adds 13 = .ok (.iaload, 1) := by decide +kernel
theorem dX11_adds_14 : decode cX11_adds 14 = .ok (.iadd, 1) := by decide +kernel
theorem dX11_adds_15 : decode cX11_adds 15 = .ok (.iload_n 2, 1) := by decide +kernel
theorem dX11_adds_16 : decode cX11_adds 16 = .ok (.iastore, 1) := by decide +kernel
theorem dX11_adds_17 : decode cX11_adds 17 = .ok (.aload_n 0, 1) := by decide +kernel
theorem dX11_adds_18 : decode cX11_adds 18 = .ok (.bipush 32, 2) := by decide +kernel
theorem dX11_adds_20 : decode cX11_adds 20 = .ok (.iload_n 1, 1) := by decide +kernel
theorem dX11_adds_21 : decode cX11_adds 21 = .ok (.iadd, 1) := by decide +kernel
theorem dX11_adds_22 : decode cX11_adds 22 = .ok (.dup2, 1) := by decide +kernel
theorem dX11_adds_23 : decode cX11_adds 23 = .ok (.iaload, 1) := by decide +kernel
theorem dX11_adds_24 : decode cX11_adds 24 = .ok (.iconst 1, 1) := by decide +kernel
theorem dX11_adds_25 : decode cX11_adds 25 = .ok (.iadd, 1) := by decide +kernel
theorem dX11_adds_26 : decode cX11_adds 26 = .ok (.iastore, 1) := by decide +kernel
theorem dX11_adds_27 : decode cX11_adds 27 = .ok (.return_, 1) := by decide +kernel
theorem dX11_meansLine_0 : decode cX11_meansLine 0 = .ok (.iconst 0, 1) := by decide +kernel
theorem dX11_meansLine_1 : decode cX11_meansLine 1 = .ok (.istore_n 2, 1) := by decide +kernel
theorem dX11_meansLine_2 : decode cX11_meansLine 2 = .ok (.iload_n 2, 1) := by decide +kernel
theorem dX11_meansLine_3 : decode cX11_meansLine 3 = .ok (.iconst 2, 1) := by decide +kernel
theorem dX11_meansLine_4 : decode cX11_meansLine 4 = .ok (.if_icmp .ge 54, 3) := by decide +kernel
theorem dX11_meansLine_7 : decode cX11_meansLine 7 = .ok (.aload_n 0, 1) := by decide +kernel
theorem dX11_meansLine_8 : decode cX11_meansLine 8 = .ok (.aload_n 0, 1) := by decide +kernel
theorem dX11_meansLine_9 : decode cX11_meansLine 9 = .ok (.getfield 30, 3) := by decide +kernel
theorem dX11_meansLine_12 : decode cX11_meansLine 12 = .ok (.iload_n 1, 1) := by decide +kernel
theorem dX11_meansLine_13 : decode cX11_meansLine 13 = .ok (.iconst 1, 1) := by decide +kernel
theorem dX11_meansLine_14 : decode cX11_meansLine 14 = .ok (.iadd, 1) := by decide +kernel
theorem dX11_meansLine_15 : decode cX11_meansLine 15 = .ok (.iload_n 2, 1) := by decide +kernel
theorem dX11_meansLine_16 : decode cX11_meansLine 16 = .ok (.iadd, 1) := by decide +kernel
theorem dX11_meansLine_17 : decode cX11_meansLine 17 = .ok (.laload, 1) := by decide +kernel
theorem dX11_meansLine_18 : decode cX11_meansLine 18 = .ok (.invokevirtual 182, 3) := by decide +kernel
theorem dX11_meansLine_21 : decode cX11_meansLine 21 = .ok (.istore_n 3, 1) := by decide +kernel
theorem dX11_meansLine_22 : decode cX11_meansLine 22 = .ok (.iload_n 3, 1) := by decide +kernel
theorem dX11_meansLine_23 : decode cX11_meansLine 23 = .ok (.ifCond .ge 13, 3) := by decide +kernel
theorem dX11_meansLine_26 : decode cX11_meansLine 26 = .ok (.aload_n 0, 1) := by decide +kernel
theorem dX11_meansLine_27 : decode cX11_meansLine 27 = .ok (.iconst 4, 1) := by decide +kernel
theorem dX11_meansLine_28 : decode cX11_meansLine 28 = .ok (.iload_n 1, 1) := by decide +kernel
theorem dX11_meansLine_29 : decode cX11_meansLine 29 = .ok (.iconst 1, 1) := by decide +kernel
theorem dX11_meansLine_30 : decode cX11_meansLine 30 = .ok (.iadd, 1) := by decide +kernel
theorem dX11_meansLine_31 : decode cX11_meansLine 31 = .ok (.iload_n 2, 1) := by decide +kernel
theorem dX11_meansLine_32 : decode cX11_meansLine 32 = .ok (.iadd, 1) := by decide +kernel
theorem dX11_meansLine_33 : decode cX11_meansLine 33 = .ok (.invokevirtual 186, 3) := by decide +kernel
theorem dX11_meansLine_36 : decode cX11_meansLine 36 = .ok (.aload_n 0, 1) := by decide +kernel
theorem dX11_meansLine_37 : decode cX11_meansLine 37 = .ok (.getfield 43, 3) := by decide +kernel
theorem dX11_meansLine_40 : decode cX11_meansLine 40 = .ok (.iconst 2, 1) := by decide +kernel
theorem dX11_meansLine_41 : decode cX11_meansLine 41 = .ok (.iconst 2, 1) := by decide +kernel
theorem dX11_meansLine_42 : decode cX11_meansLine 42 = .ok (.aload_n 0, 1) := by decide +kernel
theorem dX11_meansLine_43 : decode cX11_meansLine 43 = .ok (.getfield 167, 3) := by decide +kernel
theorem dX11_meansLine_46 : decode cX11_meansLine 46 = .ok (.imul, 1) := by decide +kernel
theorem dX11_meansLine_47 : decode cX11_meansLine 47 = .ok (.iadd, 1) := by decide +kernel
theorem dX11_meansLine_48 : decode cX11_meansLine 48 = .ok (.iload_n 2, 1) := by decide +kernel
theorem dX11_meansLine_49 : decode cX11_meansLine 49 = .ok (.iadd, 1) := by decide +kernel
theorem dX11_meansLine_50 : decode cX11_meansLine 50 = .ok (.iload_n 3, 1) := by decide +kernel
theorem dX11_meansLine_51 : decode cX11_meansLine 51 = .ok (.iastore, 1) := by decide +kernel
theorem dX11_meansLine_52 : decode cX11_meansLine 52 = .ok (.iinc 2 1, 3) := by decide +kernel
theorem dX11_meansLine_55 : decode cX11_meansLine 55 = .ok (.goto (-53), 3) := by decide +kernel
theorem dX11_meansLine_58 : decode cX11_meansLine 58 = .ok (.aload_n 0, 1) := by decide +kernel
theorem dX11_meansLine_59 : decode cX11_meansLine 59 = .ok (.getfield 30, 3) := by decide +kernel
theorem dX11_meansLine_62 : decode cX11_meansLine 62 = .ok (.iload_n 1, 1) := by decide +kernel
theorem dX11_meansLine_63 : decode cX11_meansLine 63 = .ok (.iconst 1, 1) := by decide +kernel
theorem dX11_meansLine_64 : decode cX11_meansLine 64 = .ok (.iadd, 1) := by decide +kernel
theorem dX11_meansLine_65 : decode cX11_meansLine 65 = .ok (.laload, 1) := by decide +kernel
theorem dX11_meansLine_66 : decode cX11_meansLine 66 = .ok (.aload_n 0, 1) := by decide +kernel
theorem dX11_meansLine_67 : decode cX11_meansLine 67 = .ok (.getfield 30, 3) := by decide +kernel
theorem dX11_meansLine_70 : decode cX11_meansLine 70 = .ok (.iload_n 1, 1) := by decide +kernel
theorem dX11_meansLine_71 : decode cX11_meansLine 71 = .ok (.iconst 2, 1) := by decide +kernel
theorem dX11_meansLine_72 : decode cX11_meansLine 72 = .ok (.iadd, 1) := by decide +kernel
theorem dX11_meansLine_73 : decode cX11_meansLine 73 = .ok (.laload, 1) := by decide +kernel
theorem dX11_meansLine_74 : decode cX11_meansLine 74 = .ok (.lcmp, 1) := by decide +kernel
theorem dX11_meansLine_75 : decode cX11_meansLine 75 = .ok (.ifCond .ne 11, 3) := by decide +kernel
theorem dX11_meansLine_78 : decode cX11_meansLine 78 = .ok (.aload_n 0, 1) := by decide +kernel
theorem dX11_meansLine_79 : decode cX11_meansLine 79 = .ok (.iconst 3, 1) := by decide +kernel
theorem dX11_meansLine_80 : decode cX11_meansLine 80 = .ok (.iload_n 1, 1) := by decide +kernel
theorem dX11_meansLine_81 : decode cX11_meansLine 81 = .ok (.iconst 2, 1) := by decide +kernel
theorem dX11_meansLine_82 : decode cX11_meansLine 82 = .ok (.iadd, 1) := by decide +kernel
theorem dX11_meansLine_83 : decode cX11_meansLine 83 = .ok (.invokevirtual 186, 3) := by decide +kernel
theorem dX11_meansLine_86 : decode cX11_meansLine 86 = .ok (.aload_n 0, 1) := by decide +kernel
theorem dX11_meansLine_87 : decode cX11_meansLine 87 = .ok (.getfield 43, 3) := by decide +kernel
theorem dX11_meansLine_90 : decode cX11_meansLine 90 = .ok (.bipush 22, 2) := by decide +kernel
theorem dX11_meansLine_92 : decode cX11_meansLine 92 = .ok (.aload_n 0, 1) := by decide +kernel
theorem dX11_meansLine_93 : decode cX11_meansLine 93 = .ok (.getfield 167, 3) := by decide +kernel
theorem dX11_meansLine_96 : decode cX11_meansLine 96 = .ok (.iadd, 1) := by decide +kernel
theorem dX11_meansLine_97 : decode cX11_meansLine 97 = .ok (.aload_n 0, 1) := by decide +kernel
theorem dX11_meansLine_98 : decode cX11_meansLine 98 = .ok (.getfield 20, 3) := by decide +kernel
theorem dX11_meansLine_101 : decode cX11_meansLine 101 = .ok (.iload_n 1, 1) := by decide +kernel
theorem dX11_meansLine_102 : decode cX11_meansLine 102 = .ok (.iconst 3, 1) := by decide +kernel
theorem dX11_meansLine_103 : decode cX11_meansLine 103 = .ok (.iadd, 1) := by decide +kernel
theorem dX11_meansLine_104 : decode cX11_meansLine 104 = .ok (.iaload, 1) := by decide +kernel
theorem dX11_meansLine_105 : decode cX11_meansLine 105 = .ok (.bipush 22, 2) := by decide +kernel
theorem dX11_meansLine_107 : decode cX11_meansLine 107 = .ok (.if_icmp .ne 7, 3) := by decide +kernel
theorem dX11_meansLine_110 : decode cX11_meansLine 110 = .ok (.iconst 1, 1) := by decide +kernel
theorem dX11_meansLine_111 : decode cX11_meansLine 111 = .ok (.goto 4, 3) := by decide +kernel
theorem dX11_meansLine_114 : decode cX11_meansLine 114 = .ok (.iconst 0, 1) := by decide +kernel
theorem dX11_meansLine_115 : decode cX11_meansLine 115 = .ok (.iastore, 1) := by decide +kernel
theorem dX11_meansLine_116 : decode cX11_meansLine 116 = .ok (.aload_n 0, 1) := by decide +kernel
theorem dX11_meansLine_117 : decode cX11_meansLine 117 = .ok (.dup, 1) := by decide +kernel
theorem dX11_meansLine_118 : decode cX11_meansLine 118 = .ok (.getfield 167, 3) := by decide +kernel
theorem dX11_meansLine_121 : decode cX11_meansLine 121 = .ok (.iconst 1, 1) := by decide +kernel
theorem dX11_meansLine_122 : decode cX11_meansLine 122 = .ok (.iadd, 1) := by decide +kernel
theorem dX11_meansLine_123 : decode cX11_meansLine 123 = .ok (.putfield 167, 3) := by decide +kernel
theorem dX11_meansLine_126 : decode cX11_meansLine 126 = .ok (.return_, 1) := by decide +kernel
theorem dX11_meansRound_0 : decode cX11_meansRound 0 = .ok (.aload_n 0, 1) := by decide +kernel
theorem dX11_meansRound_1 : decode cX11_meansRound 1 = .ok (.aload_n 0, 1) := by decide +kernel
theorem dX11_meansRound_2 : decode cX11_meansRound 2 = .ok (.getfield 30, 3) := by decide +kernel
theorem dX11_meansRound_5 : decode cX11_meansRound 5 = .ok (.iload_n 1, 1) := by decide +kernel
theorem dX11_meansRound_6 : decode cX11_meansRound 6 = .ok (.iconst 1, 1) := by decide +kernel
theorem dX11_meansRound_7 : decode cX11_meansRound 7 = .ok (.iadd, 1) := by decide +kernel
theorem dX11_meansRound_8 : decode cX11_meansRound 8 = .ok (.laload, 1) := by decide +kernel
theorem dX11_meansRound_9 : decode cX11_meansRound 9 = .ok (.invokevirtual 182, 3) := by decide +kernel
theorem dX11_meansRound_12 : decode cX11_meansRound 12 = .ok (.istore_n 2, 1) := by decide +kernel
theorem dX11_meansRound_13 : decode cX11_meansRound 13 = .ok (.iload_n 2, 1) := by decide +kernel
theorem dX11_meansRound_14 : decode cX11_meansRound 14 = .ok (.ifCond .ge 12, 3) := by decide +kernel
theorem dX11_meansRound_17 : decode cX11_meansRound 17 = .ok (.aload_n 0, 1) := by decide +kernel
theorem dX11_meansRound_18 : decode cX11_meansRound 18 = .ok (.iconst 4, 1) := by decide +kernel
theorem dX11_meansRound_19 : decode cX11_meansRound 19 = .ok (.iload_n 1, 1) := by decide +kernel
theorem dX11_meansRound_20 : decode cX11_meansRound 20 = .ok (.iconst 1, 1) := by decide +kernel
theorem dX11_meansRound_21 : decode cX11_meansRound 21 = .ok (.iadd, 1) := by decide +kernel
theorem dX11_meansRound_22 : decode cX11_meansRound 22 = .ok (.invokevirtual 186, 3) := by decide +kernel
theorem dX11_meansRound_25 : decode cX11_meansRound 25 = .ok (.return_, 1) := by decide +kernel
theorem dX11_meansRound_26 : decode cX11_meansRound 26 = .ok (.iconst 0, 1) := by decide +kernel
theorem dX11_meansRound_27 : decode cX11_meansRound 27 = .ok (.istore_n 3, 1) := by decide +kernel
theorem dX11_meansRound_28 : decode cX11_meansRound 28 = .ok (.iconst 0, 1) := by decide +kernel
theorem dX11_meansRound_29 : decode cX11_meansRound 29 = .ok (.istore 4, 2) := by decide +kernel
theorem dX11_meansRound_31 : decode cX11_meansRound 31 = .ok (.iconst 1, 1) := by decide +kernel
theorem dX11_meansRound_32 : decode cX11_meansRound 32 = .ok (.istore 5, 2) := by decide +kernel
theorem dX11_meansRound_34 : decode cX11_meansRound 34 = .ok (.iload_n 1, 1) := by decide +kernel
theorem dX11_meansRound_35 : decode cX11_meansRound 35 = .ok (.iconst 2, 1) := by decide +kernel
theorem dX11_meansRound_36 : decode cX11_meansRound 36 = .ok (.iadd, 1) := by decide +kernel
theorem dX11_meansRound_37 : decode cX11_meansRound 37 = .ok (.istore 6, 2) := by decide +kernel
theorem dX11_meansRound_39 : decode cX11_meansRound 39 = .ok (.aload_n 0, 1) := by decide +kernel
theorem dX11_meansRound_40 : decode cX11_meansRound 40 = .ok (.getfield 20, 3) := by decide +kernel
theorem dX11_meansRound_43 : decode cX11_meansRound 43 = .ok (.iload 6, 2) := by decide +kernel
theorem dX11_meansRound_45 : decode cX11_meansRound 45 = .ok (.iaload, 1) := by decide +kernel
theorem dX11_meansRound_46 : decode cX11_meansRound 46 = .ok (.iconst 2, 1) := by decide +kernel
theorem dX11_meansRound_47 : decode cX11_meansRound 47 = .ok (.if_icmp .ne 127, 3) := by decide +kernel
theorem dX11_meansRound_50 : decode cX11_meansRound 50 = .ok (.aload_n 0, 1) := by decide +kernel
theorem dX11_meansRound_51 : decode cX11_meansRound 51 = .ok (.getfield 27, 3) := by decide +kernel
theorem dX11_meansRound_54 : decode cX11_meansRound 54 = .ok (.iload 6, 2) := by decide +kernel
theorem dX11_meansRound_56 : decode cX11_meansRound 56 = .ok (.iaload, 1) := by decide +kernel
theorem dX11_meansRound_57 : decode cX11_meansRound 57 = .ok (.istore 7, 2) := by decide +kernel
theorem dX11_meansRound_59 : decode cX11_meansRound 59 = .ok (.iload 7, 2) := by decide +kernel
theorem dX11_meansRound_61 : decode cX11_meansRound 61 = .ok (.aload_n 0, 1) := by decide +kernel
theorem dX11_meansRound_62 : decode cX11_meansRound 62 = .ok (.getfield 167, 3) := by decide +kernel
theorem dX11_meansRound_65 : decode cX11_meansRound 65 = .ok (.if_icmp .ge 48, 3) := by decide +kernel
theorem dX11_meansRound_68 : decode cX11_meansRound 68 = .ok (.aload_n 0, 1) := by decide +kernel
theorem dX11_meansRound_69 : decode cX11_meansRound 69 = .ok (.getfield 43, 3) := by decide +kernel
theorem dX11_meansRound_72 : decode cX11_meansRound 72 = .ok (.iconst 2, 1) := by decide +kernel
theorem dX11_meansRound_73 : decode cX11_meansRound 73 = .ok (.iconst 2, 1) := by decide +kernel
theorem dX11_meansRound_74 : decode cX11_meansRound 74 = .ok (.iload 7, 2) := by decide +kernel
theorem dX11_meansRound_76 : decode cX11_meansRound 76 = .ok (.imul, 1) := by decide +kernel
theorem dX11_meansRound_77 : decode cX11_meansRound 77 = .ok (.iadd, 1) := by decide +kernel
theorem dX11_meansRound_78 : decode cX11_meansRound 78 = .ok (.iaload, 1) := by decide +kernel
theorem dX11_meansRound_79 : decode cX11_meansRound 79 = .ok (.iload_n 2, 1) := by decide +kernel
theorem dX11_meansRound_80 : decode cX11_meansRound 80 = .ok (.if_icmp .eq 20, 3) := by decide +kernel
theorem dX11_meansRound_83 : decode cX11_meansRound 83 = .ok (.aload_n 0, 1) := by decide +kernel
theorem dX11_meansRound_84 : decode cX11_meansRound 84 = .ok (.getfield 43, 3) := by decide +kernel
theorem dX11_meansRound_87 : decode cX11_meansRound 87 = .ok (.iconst 2, 1) := by decide +kernel
theorem dX11_meansRound_88 : decode cX11_meansRound 88 = .ok (.iconst 2, 1) := by decide +kernel
theorem dX11_meansRound_89 : decode cX11_meansRound 89 = .ok (.iload 7, 2) := by decide +kernel
theorem dX11_meansRound_91 : decode cX11_meansRound 91 = .ok (.imul, 1) := by decide +kernel
theorem dX11_meansRound_92 : decode cX11_meansRound 92 = .ok (.iadd, 1) := by decide +kernel
theorem dX11_meansRound_93 : decode cX11_meansRound 93 = .ok (.iconst 1, 1) := by decide +kernel
theorem dX11_meansRound_94 : decode cX11_meansRound 94 = .ok (.iadd, 1) := by decide +kernel
theorem dX11_meansRound_95 : decode cX11_meansRound 95 = .ok (.iaload, 1) := by decide +kernel
theorem dX11_meansRound_96 : decode cX11_meansRound 96 = .ok (.iload_n 2, 1) := by decide +kernel
theorem dX11_meansRound_97 : decode cX11_meansRound 97 = .ok (.if_icmp .ne 16, 3) := by decide +kernel
theorem dX11_meansRound_100 : decode cX11_meansRound 100 = .ok (.iload_n 3, 1) := by decide +kernel
theorem dX11_meansRound_101 : decode cX11_meansRound 101 = .ok (.iload 7, 2) := by decide +kernel
theorem dX11_meansRound_103 : decode cX11_meansRound 103 = .ok (.invokestatic 200, 3) := by decide +kernel
theorem dX11_meansRound_106 : decode cX11_meansRound 106 = .ok (.ifCond .ne 7, 3) := by decide +kernel
theorem dX11_meansRound_109 : decode cX11_meansRound 109 = .ok (.iconst 1, 1) := by decide +kernel
theorem dX11_meansRound_110 : decode cX11_meansRound 110 = .ok (.goto 4, 3) := by decide +kernel
theorem dX11_meansRound_113 : decode cX11_meansRound 113 = .ok (.iconst 0, 1) := by decide +kernel
theorem dX11_meansRound_114 : decode cX11_meansRound 114 = .ok (.istore 8, 2) := by decide +kernel
theorem dX11_meansRound_116 : decode cX11_meansRound 116 = .ok (.iload 8, 2) := by decide +kernel
theorem dX11_meansRound_118 : decode cX11_meansRound 118 = .ok (.ifCond .ne 16, 3) := by decide +kernel
theorem dX11_meansRound_121 : decode cX11_meansRound 121 = .ok (.aload_n 0, 1) := by decide +kernel
theorem dX11_meansRound_122 : decode cX11_meansRound 122 = .ok (.iconst 5, 1) := by decide +kernel
theorem dX11_meansRound_123 : decode cX11_meansRound 123 = .ok (.iload 6, 2) := by decide +kernel
theorem dX11_meansRound_125 : decode cX11_meansRound 125 = .ok (.invokevirtual 186, 3) := by decide +kernel
theorem dX11_meansRound_128 : decode cX11_meansRound 128 = .ok (.iconst 0, 1) := by decide +kernel
theorem dX11_meansRound_129 : decode cX11_meansRound 129 = .ok (.istore 5, 2) := by decide +kernel
theorem dX11_meansRound_131 : decode cX11_meansRound 131 = .ok (.goto 37, 3) := by decide +kernel
theorem dX11_meansRound_134 : decode cX11_meansRound 134 = .ok (.iload_n 3, 1) := by decide +kernel
theorem dX11_meansRound_135 : decode cX11_meansRound 135 = .ok (.iconst 1, 1) := by decide +kernel
theorem dX11_meansRound_136 : decode cX11_meansRound 136 = .ok (.iload 7, 2) := by decide +kernel
theorem dX11_meansRound_138 : decode cX11_meansRound 138 = .ok (.ishl, 1) := by decide +kernel
theorem dX11_meansRound_139 : decode cX11_meansRound 139 = .ok (.ior, 1) := by decide +kernel
theorem dX11_meansRound_140 : decode cX11_meansRound 140 = .ok (.istore_n 3, 1) := by decide +kernel
theorem dX11_meansRound_141 : decode cX11_meansRound 141 = .ok (.aload_n 0, 1) := by decide +kernel
theorem dX11_meansRound_142 : decode cX11_meansRound 142 = .ok (.getfield 146, 3) := by decide +kernel
theorem dX11_meansRound_145 : decode cX11_meansRound 145 = .ok (.ifCond .ne 20, 3) := by decide +kernel
theorem dX11_meansRound_148 : decode cX11_meansRound 148 = .ok (.aload_n 0, 1) := by decide +kernel
theorem dX11_meansRound_149 : decode cX11_meansRound 149 = .ok (.getfield 43, 3) := by decide +kernel
theorem dX11_meansRound_152 : decode cX11_meansRound 152 = .ok (.bipush 38, 2) := by decide +kernel
theorem dX11_meansRound_154 : decode cX11_meansRound 154 = .ok (.bipush 10, 2) := by decide +kernel
theorem dX11_meansRound_156 : decode cX11_meansRound 156 = .ok (.iload_n 2, 1) := by decide +kernel
theorem dX11_meansRound_157 : decode cX11_meansRound 157 = .ok (.imul, 1) := by decide +kernel
theorem dX11_meansRound_158 : decode cX11_meansRound 158 = .ok (.iadd, 1) := by decide +kernel
theorem dX11_meansRound_159 : decode cX11_meansRound 159 = .ok (.iload 4, 2) := by decide +kernel
theorem dX11_meansRound_161 : decode cX11_meansRound 161 = .ok (.iadd, 1) := by decide +kernel
theorem dX11_meansRound_162 : decode cX11_meansRound 162 = .ok (.iload 7, 2) := by decide +kernel
theorem dX11_meansRound_164 : decode cX11_meansRound 164 = .ok (.iastore, 1) := by decide +kernel
theorem dX11_meansRound_165 : decode cX11_meansRound 165 = .ok (.iinc 4 1, 3) := by decide +kernel
theorem dX11_meansRound_168 : decode cX11_meansRound 168 = .ok (.iinc 6 1, 3) := by decide +kernel
theorem dX11_meansRound_171 : decode cX11_meansRound 171 = .ok (.goto (-132), 3) := by decide +kernel
theorem dX11_meansRound_174 : decode cX11_meansRound 174 = .ok (.iload 5, 2) := by decide +kernel
theorem dX11_meansRound_176 : decode cX11_meansRound 176 = .ok (.ifCond .eq 25, 3) := by decide +kernel
theorem dX11_meansRound_179 : decode cX11_meansRound 179 = .ok (.iload 4, 2) := by decide +kernel
theorem dX11_meansRound_181 : decode cX11_meansRound 181 = .ok (.aload_n 0, 1) := by decide +kernel
theorem dX11_meansRound_182 : decode cX11_meansRound 182 = .ok (.getfield 43, 3) := by decide +kernel
theorem dX11_meansRound_185 : decode cX11_meansRound 185 = .ok (.bipush 32, 2) := by decide +kernel
theorem dX11_meansRound_187 : decode cX11_meansRound 187 = .ok (.iload_n 2, 1) := by decide +kernel
theorem dX11_meansRound_188 : decode cX11_meansRound 188 = .ok (.iadd, 1) := by decide +kernel
theorem dX11_meansRound_189 : decode cX11_meansRound 189 = .ok (.iaload, 1) := by decide +kernel
theorem dX11_meansRound_190 : decode cX11_meansRound 190 = .ok (.if_icmp .ge 11, 3) := by decide +kernel
theorem dX11_meansRound_193 : decode cX11_meansRound 193 = .ok (.aload_n 0, 1) := by decide +kernel
theorem dX11_meansRound_194 : decode cX11_meansRound 194 = .ok (.bipush 6, 2) := by decide +kernel
theorem dX11_meansRound_196 : decode cX11_meansRound 196 = .ok (.iload 6, 2) := by decide +kernel
theorem dX11_meansRound_198 : decode cX11_meansRound 198 = .ok (.invokevirtual 186, 3) := by decide +kernel
theorem dX11_meansRound_201 : decode cX11_meansRound 201 = .ok (.return_, 1) := by decide +kernel
theorem dX11_in_0 : decode cX11_in 0 = .ok (.iload_n 0, 1) := by decide +kernel
theorem dX11_in_1 : decode cX11_in 1 = .ok (.iload_n 1, 1) := by decide +kernel
theorem dX11_in_2 : decode cX11_in 2 = .ok (.if_icmp .lt 12, 3) := by decide +kernel
theorem dX11_in_5 : decode cX11_in 5 = .ok (.iload_n 0, 1) := by decide +kernel
theorem dX11_in_6 : decode cX11_in 6 = .ok (.iload_n 2, 1) := by decide +kernel
theorem dX11_in_7 : decode cX11_in 7 = .ok (.if_icmp .gt 7, 3) := by decide +kernel
theorem dX11_in_10 : decode cX11_in 10 = .ok (.iconst 1, 1) := by decide +kernel
theorem dX11_in_11 : decode cX11_in 11 = .ok (.goto 4, 3) := by decide +kernel
theorem dX11_in_14 : decode cX11_in 14 = .ok (.iconst 0, 1) := by decide +kernel
theorem dX11_in_15 : decode cX11_in 15 = .ok (.ireturn, 1) := by decide +kernel
theorem dX11_has_0 : decode cX11_has 0 = .ok (.iload_n 0, 1) := by decide +kernel
theorem dX11_has_1 : decode cX11_has 1 = .ok (.iload_n 1, 1) := by decide +kernel
theorem dX11_has_2 : decode cX11_has 2 = .ok (.ishr, 1) := by decide +kernel
theorem dX11_has_3 : decode cX11_has 3 = .ok (.iconst 1, 1) := by decide +kernel
theorem dX11_has_4 : decode cX11_has 4 = .ok (.iand, 1) := by decide +kernel
theorem dX11_has_5 : decode cX11_has 5 = .ok (.iconst 1, 1) := by decide +kernel
theorem dX11_has_6 : decode cX11_has 6 = .ok (.if_icmp .ne 7, 3) := by decide +kernel
theorem dX11_has_9 : decode cX11_has 9 = .ok (.iconst 1, 1) := by decide +kernel
theorem dX11_has_10 : decode cX11_has 10 = .ok (.goto 4, 3) := by decide +kernel
theorem dX11_has_13 : decode cX11_has 13 = .ok (.iconst 0, 1) := by decide +kernel
theorem dX11_has_14 : decode cX11_has 14 = .ok (.ireturn, 1) := by decide +kernel
theorem dX11_isPost_0 : decode cX11_isPost 0 = .ok (.iload_n 1, 1) := by decide +kernel
theorem dX11_isPost_1 : decode cX11_isPost 1 = .ok (.iconst 0, 1) := by decide +kernel
theorem dX11_isPost_2 : decode cX11_isPost 2 = .ok (.aload_n 0, 1) := by decide +kernel
theorem dX11_isPost_3 : decode cX11_isPost 3 = .ok (.getfield 40, 3) := by decide +kernel
theorem dX11_isPost_6 : decode cX11_isPost 6 = .ok (.iconst 0, 1) := by decide +kernel
theorem dX11_isPost_7 : decode cX11_isPost 7 = .ok (.iaload, 1) := by decide +kernel
theorem dX11_isPost_8 : decode cX11_isPost 8 = .ok (.iconst 1, 1) := by decide +kernel
theorem dX11_isPost_9 : decode cX11_isPost 9 = .ok (.isub, 1) := by decide +kernel
theorem dX11_isPost_10 : decode cX11_isPost 10 = .ok (.invokestatic 204, 3) := by decide +kernel
theorem dX11_isPost_13 : decode cX11_isPost 13 = .ok (.ireturn, 1) := by decide +kernel
theorem dX11_isLine_0 : decode cX11_isLine 0 = .ok (.iload_n 1, 1) := by decide +kernel
theorem dX11_isLine_1 : decode cX11_isLine 1 = .ok (.iconst 0, 1) := by decide +kernel
theorem dX11_isLine_2 : decode cX11_isLine 2 = .ok (.aload_n 0, 1) := by decide +kernel
theorem dX11_isLine_3 : decode cX11_isLine 3 = .ok (.getfield 40, 3) := by decide +kernel
theorem dX11_isLine_6 : decode cX11_isLine 6 = .ok (.iconst 1, 1) := by decide +kernel
theorem dX11_isLine_7 : decode cX11_isLine 7 = .ok (.iaload, 1) := by decide +kernel
theorem dX11_isLine_8 : decode cX11_isLine 8 = .ok (.iconst 1, 1) := by decide +kernel
theorem dX11_isLine_9 : decode cX11_isLine 9 = .ok (.isub, 1) := by decide +kernel
theorem dX11_isLine_10 : decode cX11_isLine 10 = .ok (.invokestatic 204, 3) := by decide +kernel
theorem dX11_isLine_13 : decode cX11_isLine 13 = .ok (.ireturn, 1) := by decide +kernel
theorem dX11_marks_0 : decode cX11_marks 0 = .ok (.aload_n 0, 1) := by decide +kernel
theorem dX11_marks_1 : decode cX11_marks 1 = .ok (.getfield 176, 3) := by decide +kernel
theorem dX11_marks_4 : decode cX11_marks 4 = .ok (.bipush 40, 2) := by decide +kernel
theorem dX11_marks_6 : decode cX11_marks 6 = .ok (.if_icmp .ne 26, 3) := by decide +kernel
theorem dX11_marks_9 : decode cX11_marks 9 = .ok (.aload_n 0, 1) := by decide +kernel
theorem dX11_marks_10 : decode cX11_marks 10 = .ok (.aload_n 0, 1) := by decide +kernel
theorem dX11_marks_11 : decode cX11_marks 11 = .ok (.getfield 208, 3) := by decide +kernel
theorem dX11_marks_14 : decode cX11_marks 14 = .ok (.iconst 1, 1) := by decide +kernel
theorem dX11_marks_15 : decode cX11_marks 15 = .ok (.iadd, 1) := by decide +kernel
theorem dX11_marks_16 : decode cX11_marks 16 = .ok (.bipush 40, 2) := by decide +kernel
theorem dX11_marks_18 : decode cX11_marks 18 = .ok (.irem, 1) := by decide +kernel
theorem dX11_marks_19 : decode cX11_marks 19 = .ok (.putfield 208, 3) := by decide +kernel
theorem dX11_marks_22 : decode cX11_marks 22 = .ok (.aload_n 0, 1) := by decide +kernel
theorem dX11_marks_23 : decode cX11_marks 23 = .ok (.dup, 1) := by decide +kernel
theorem dX11_marks_24 : decode cX11_marks 24 = .ok (.getfield 176, 3) := by decide +kernel
theorem dX11_marks_27 : decode cX11_marks 27 = .ok (.iconst 1, 1) := by decide +kernel
theorem dX11_marks_28 : decode cX11_marks 28 = .ok (.isub, 1) := by decide +kernel
theorem dX11_marks_29 : decode cX11_marks 29 = .ok (.putfield 176, 3) := by decide +kernel
theorem dX11_marks_32 : decode cX11_marks 32 = .ok (.bipush 98, 2) := by decide +kernel
theorem dX11_marks_34 : decode cX11_marks 34 = .ok (.aload_n 0, 1) := by decide +kernel
theorem dX11_marks_35 : decode cX11_marks 35 = .ok (.getfield 208, 3) := by decide +kernel
theorem dX11_marks_38 : decode cX11_marks 38 = .ok (.aload_n 0, 1) := by decide +kernel
theorem dX11_marks_39 : decode cX11_marks 39 = .ok (.getfield 176, 3) := by decide +kernel
theorem dX11_marks_42 : decode cX11_marks 42 = .ok (.iadd, 1) := by decide +kernel
theorem dX11_marks_43 : decode cX11_marks 43 = .ok (.bipush 40, 2) := by decide +kernel
theorem dX11_marks_45 : decode cX11_marks 45 = .ok (.irem, 1) := by decide +kernel
theorem dX11_marks_46 : decode cX11_marks 46 = .ok (.imul, 1) := by decide +kernel
theorem dX11_marks_47 : decode cX11_marks 47 = .ok (.istore_n 1, 1) := by decide +kernel
theorem dX11_marks_48 : decode cX11_marks 48 = .ok (.iconst 0, 1) := by decide +kernel
theorem dX11_marks_49 : decode cX11_marks 49 = .ok (.istore_n 2, 1) := by decide +kernel
theorem dX11_marks_50 : decode cX11_marks 50 = .ok (.iload_n 2, 1) := by decide +kernel
theorem dX11_marks_51 : decode cX11_marks 51 = .ok (.bipush 98, 2) := by decide +kernel
theorem dX11_marks_53 : decode cX11_marks 53 = .ok (.if_icmp .ge 23, 3) := by decide +kernel
theorem dX11_marks_56 : decode cX11_marks 56 = .ok (.aload_n 0, 1) := by decide +kernel
theorem dX11_marks_57 : decode cX11_marks 57 = .ok (.getfield 49, 3) := by decide +kernel
theorem dX11_marks_60 : decode cX11_marks 60 = .ok (.iload_n 1, 1) := by decide +kernel
theorem dX11_marks_61 : decode cX11_marks 61 = .ok (.iload_n 2, 1) := by decide +kernel
theorem dX11_marks_62 : decode cX11_marks 62 = .ok (.iadd, 1) := by decide +kernel
theorem dX11_marks_63 : decode cX11_marks 63 = .ok (.aload_n 0, 1) := by decide +kernel
theorem dX11_marks_64 : decode cX11_marks 64 = .ok (.getfield 40, 3) := by decide +kernel
theorem dX11_marks_67 : decode cX11_marks 67 = .ok (.iload_n 2, 1) := by decide +kernel
theorem dX11_marks_68 : decode cX11_marks 68 = .ok (.iaload, 1) := by decide +kernel
theorem dX11_marks_69 : decode cX11_marks 69 = .ok (.iastore, 1) := by decide +kernel
theorem dX11_marks_70 : decode cX11_marks 70 = .ok (.iinc 2 1, 3) := by decide +kernel
theorem dX11_marks_73 : decode cX11_marks 73 = .ok (.goto (-23), 3) := by decide +kernel
theorem dX11_marks_76 : decode cX11_marks 76 = .ok (.aload_n 0, 1) := by decide +kernel
theorem dX11_marks_77 : decode cX11_marks 77 = .ok (.dup, 1) := by decide +kernel
theorem dX11_marks_78 : decode cX11_marks 78 = .ok (.getfield 176, 3) := by decide +kernel
theorem dX11_marks_81 : decode cX11_marks 81 = .ok (.iconst 1, 1) := by decide +kernel
theorem dX11_marks_82 : decode cX11_marks 82 = .ok (.iadd, 1) := by decide +kernel
theorem dX11_marks_83 : decode cX11_marks 83 = .ok (.putfield 176, 3) := by decide +kernel
theorem dX11_marks_86 : decode cX11_marks 86 = .ok (.return_, 1) := by decide +kernel
theorem dX11_undo_0 : decode cX11_undo 0 = .ok (.aload_n 0, 1) := by decide +kernel
theorem dX11_undo_1 : decode cX11_undo 1 = .ok (.getfield 176, 3) := by decide +kernel
theorem dX11_undo_4 : decode cX11_undo 4 = .ok (.ifCond .ne 5, 3) := by decide +kernel
theorem dX11_undo_7 : decode cX11_undo 7 = .ok (.iconst 0, 1) := by decide +kernel
theorem dX11_undo_8 : decode cX11_undo 8 = .ok (.ireturn, 1) := by decide +kernel
theorem dX11_undo_9 : decode cX11_undo 9 = .ok (.aload_n 0, 1) := by decide +kernel
theorem dX11_undo_10 : decode cX11_undo 10 = .ok (.dup, 1) := by decide +kernel
theorem dX11_undo_11 : decode cX11_undo 11 = .ok (.getfield 176, 3) := by decide +kernel
theorem dX11_undo_14 : decode cX11_undo 14 = .ok (.iconst 1, 1) := by decide +kernel
theorem dX11_undo_15 : decode cX11_undo 15 = .ok (.isub, 1) := by decide +kernel
theorem dX11_undo_16 : decode cX11_undo 16 = .ok (.putfield 176, 3) := by decide +kernel
theorem dX11_undo_19 : decode cX11_undo 19 = .ok (.bipush 98, 2) := by decide +kernel
theorem dX11_undo_21 : decode cX11_undo 21 = .ok (.aload_n 0, 1) := by decide +kernel
theorem dX11_undo_22 : decode cX11_undo 22 = .ok (.getfield 208, 3) := by decide +kernel
theorem dX11_undo_25 : decode cX11_undo 25 = .ok (.aload_n 0, 1) := by decide +kernel
theorem dX11_undo_26 : decode cX11_undo 26 = .ok (.getfield 176, 3) := by decide +kernel
theorem dX11_undo_29 : decode cX11_undo 29 = .ok (.iadd, 1) := by decide +kernel
theorem dX11_undo_30 : decode cX11_undo 30 = .ok (.bipush 40, 2) := by decide +kernel
theorem dX11_undo_32 : decode cX11_undo 32 = .ok (.irem, 1) := by decide +kernel
theorem dX11_undo_33 : decode cX11_undo 33 = .ok (.imul, 1) := by decide +kernel
theorem dX11_undo_34 : decode cX11_undo 34 = .ok (.istore_n 1, 1) := by decide +kernel
theorem dX11_undo_35 : decode cX11_undo 35 = .ok (.iconst 0, 1) := by decide +kernel
theorem dX11_undo_36 : decode cX11_undo 36 = .ok (.istore_n 2, 1) := by decide +kernel
theorem dX11_undo_37 : decode cX11_undo 37 = .ok (.iload_n 2, 1) := by decide +kernel
theorem dX11_undo_38 : decode cX11_undo 38 = .ok (.bipush 98, 2) := by decide +kernel
theorem dX11_undo_40 : decode cX11_undo 40 = .ok (.if_icmp .ge 23, 3) := by decide +kernel
theorem dX11_undo_43 : decode cX11_undo 43 = .ok (.aload_n 0, 1) := by decide +kernel
theorem dX11_undo_44 : decode cX11_undo 44 = .ok (.getfield 40, 3) := by decide +kernel
theorem dX11_undo_47 : decode cX11_undo 47 = .ok (.iload_n 2, 1) := by decide +kernel
theorem dX11_undo_48 : decode cX11_undo 48 = .ok (.aload_n 0, 1) := by decide +kernel
theorem dX11_undo_49 : decode cX11_undo 49 = .ok (.getfield 49, 3) := by decide +kernel
theorem dX11_undo_52 : decode cX11_undo 52 = .ok (.iload_n 1, 1) := by decide +kernel
theorem dX11_undo_53 : decode cX11_undo 53 = .ok (.iload_n 2, 1) := by decide +kernel
theorem dX11_undo_54 : decode cX11_undo 54 = .ok (.iadd, 1) := by decide +kernel
theorem dX11_undo_55 : decode cX11_undo 55 = .ok (.iaload, 1) := by decide +kernel
theorem dX11_undo_56 : decode cX11_undo 56 = .ok (.iastore, 1) := by decide +kernel
theorem dX11_undo_57 : decode cX11_undo 57 = .ok (.iinc 2 1, 3) := by decide +kernel
theorem dX11_undo_60 : decode cX11_undo 60 = .ok (.goto (-23), 3) := by decide +kernel
theorem dX11_undo_63 : decode cX11_undo 63 = .ok (.iconst 1, 1) := by decide +kernel
theorem dX11_undo_64 : decode cX11_undo 64 = .ok (.ireturn, 1) := by decide +kernel
theorem dX11_hold_0 : decode cX11_hold 0 = .ok (.iload_n 1, 1) := by decide +kernel
theorem dX11_hold_1 : decode cX11_hold 1 = .ok (.iconst 0, 1) := by decide +kernel
theorem dX11_hold_2 : decode cX11_hold 2 = .ok (.iconst 2, 1) := by decide +kernel
theorem dX11_hold_3 : decode cX11_hold 3 = .ok (.invokestatic 204, 3) := by decide +kernel
theorem dX11_hold_6 : decode cX11_hold 6 = .ok (.ifCond .ne 5, 3) := by decide +kernel
theorem dX11_hold_9 : decode cX11_hold 9 = .ok (.iconst 0, 1) := by decide +kernel
theorem dX11_hold_10 : decode cX11_hold 10 = .ok (.ireturn, 1) := by decide +kernel
theorem dX11_hold_11 : decode cX11_hold 11 = .ok (.iconst 0, 1) := by decide +kernel
theorem dX11_hold_12 : decode cX11_hold 12 = .ok (.istore_n 2, 1) := by decide +kernel
theorem dX11_hold_13 : decode cX11_hold 13 = .ok (.iload_n 2, 1) := by decide +kernel
theorem dX11_hold_14 : decode cX11_hold 14 = .ok (.bipush 98, 2) := by decide +kernel
theorem dX11_hold_16 : decode cX11_hold 16 = .ok (.if_icmp .ge 26, 3) := by decide +kernel
theorem dX11_hold_19 : decode cX11_hold 19 = .ok (.aload_n 0, 1) := by decide +kernel
theorem dX11_hold_20 : decode cX11_hold 20 = .ok (.getfield 52, 3) := by decide +kernel
theorem dX11_hold_23 : decode cX11_hold 23 = .ok (.bipush 98, 2) := by decide +kernel
theorem dX11_hold_25 : decode cX11_hold 25 = .ok (.iload_n 1, 1) := by decide +kernel
theorem dX11_hold_26 : decode cX11_hold 26 = .ok (.imul, 1) := by decide +kernel
theorem dX11_hold_27 : decode cX11_hold 27 = .ok (.iload_n 2, 1) := by decide +kernel
theorem dX11_hold_28 : decode cX11_hold 28 = .ok (.iadd, 1) := by decide +kernel
theorem dX11_hold_29 : decode cX11_hold 29 = .ok (.aload_n 0, 1) := by decide +kernel
theorem dX11_hold_30 : decode cX11_hold 30 = .ok (.getfield 40, 3) := by decide +kernel
theorem dX11_hold_33 : decode cX11_hold 33 = .ok (.iload_n 2, 1) := by decide +kernel
theorem dX11_hold_34 : decode cX11_hold 34 = .ok (.iaload, 1) := by decide +kernel
theorem dX11_hold_35 : decode cX11_hold 35 = .ok (.iastore, 1) := by decide +kernel
theorem dX11_hold_36 : decode cX11_hold 36 = .ok (.iinc 2 1, 3) := by decide +kernel
theorem dX11_hold_39 : decode cX11_hold 39 = .ok (.goto (-26), 3) := by decide +kernel
theorem dX11_hold_42 : decode cX11_hold 42 = .ok (.aload_n 0, 1) := by decide +kernel
theorem dX11_hold_43 : decode cX11_hold 43 = .ok (.getfield 55, 3) := by decide +kernel
theorem dX11_hold_46 : decode cX11_hold 46 = .ok (.iload_n 1, 1) := by decide +kernel
theorem dX11_hold_47 : decode cX11_hold 47 = .ok (.iconst 1, 1) := by decide +kernel
theorem dX11_hold_48 : decode cX11_hold 48 = .ok (.bastore, 1) := by decide +kernel
theorem dX11_hold_49 : decode cX11_hold 49 = .ok (.iconst 1, 1) := by decide +kernel
theorem dX11_hold_50 : decode cX11_hold 50 = .ok (.ireturn, 1) := by decide +kernel
theorem dX11_restore_0 : decode cX11_restore 0 = .ok (.iload_n 1, 1) := by decide +kernel
theorem dX11_restore_1 : decode cX11_restore 1 = .ok (.iconst 0, 1) := by decide +kernel
theorem dX11_restore_2 : decode cX11_restore 2 = .ok (.iconst 2, 1) := by decide +kernel
theorem dX11_restore_3 : decode cX11_restore 3 = .ok (.invokestatic 204, 3) := by decide +kernel
theorem dX11_restore_6 : decode cX11_restore 6 = .ok (.ifCond .eq 12, 3) := by decide +kernel
theorem dX11_restore_9 : decode cX11_restore 9 = .ok (.aload_n 0, 1) := by decide +kernel
theorem dX11_restore_10 : decode cX11_restore 10 = .ok (.getfield 55, 3) := by decide +kernel
theorem dX11_restore_13 : decode cX11_restore 13 = .ok (.iload_n 1, 1) := by decide +kernel
theorem dX11_restore_14 : decode cX11_restore 14 = .ok (.baload, 1) := by decide +kernel
theorem dX11_restore_15 : decode cX11_restore 15 = .ok (.ifCond .ne 5, 3) := by decide +kernel
theorem dX11_restore_18 : decode cX11_restore 18 = .ok (.iconst 0, 1) := by decide +kernel
theorem dX11_restore_19 : decode cX11_restore 19 = .ok (.ireturn, 1) := by decide +kernel
theorem dX11_restore_20 : decode cX11_restore 20 = .ok (.iconst 0, 1) := by decide +kernel
theorem dX11_restore_21 : decode cX11_restore 21 = .ok (.istore_n 2, 1) := by decide +kernel
theorem dX11_restore_22 : decode cX11_restore 22 = .ok (.iload_n 2, 1) := by decide +kernel
theorem dX11_restore_23 : decode cX11_restore 23 = .ok (.bipush 98, 2) := by decide +kernel
theorem dX11_restore_25 : decode cX11_restore 25 = .ok (.if_icmp .ge 26, 3) := by decide +kernel
theorem dX11_restore_28 : decode cX11_restore 28 = .ok (.aload_n 0, 1) := by decide +kernel
theorem dX11_restore_29 : decode cX11_restore 29 = .ok (.getfield 40, 3) := by decide +kernel
theorem dX11_restore_32 : decode cX11_restore 32 = .ok (.iload_n 2, 1) := by decide +kernel
theorem dX11_restore_33 : decode cX11_restore 33 = .ok (.aload_n 0, 1) := by decide +kernel
theorem dX11_restore_34 : decode cX11_restore 34 = .ok (.getfield 52, 3) := by decide +kernel
theorem dX11_restore_37 : decode cX11_restore 37 = .ok (.bipush 98, 2) := by decide +kernel
theorem dX11_restore_39 : decode cX11_restore 39 = .ok (.iload_n 1, 1) := by decide +kernel
theorem dX11_restore_40 : decode cX11_restore 40 = .ok (.imul, 1) := by decide +kernel
theorem dX11_restore_41 : decode cX11_restore 41 = .ok (.iload_n 2, 1) := by decide +kernel
theorem dX11_restore_42 : decode cX11_restore 42 = .ok (.iadd, 1) := by decide +kernel
theorem dX11_restore_43 : decode cX11_restore 43 = .ok (.iaload, 1) := by decide +kernel
theorem dX11_restore_44 : decode cX11_restore 44 = .ok (.iastore, 1) := by decide +kernel
theorem dX11_restore_45 : decode cX11_restore 45 = .ok (.iinc 2 1, 3) := by decide +kernel
theorem dX11_restore_48 : decode cX11_restore 48 = .ok (.goto (-26), 3) := by decide +kernel
theorem dX11_restore_51 : decode cX11_restore 51 = .ok (.aload_n 0, 1) := by decide +kernel
theorem dX11_restore_52 : decode cX11_restore 52 = .ok (.iconst 0, 1) := by decide +kernel
theorem dX11_restore_53 : decode cX11_restore 53 = .ok (.putfield 176, 3) := by decide +kernel
theorem dX11_restore_56 : decode cX11_restore 56 = .ok (.iconst 1, 1) := by decide +kernel
theorem dX11_restore_57 : decode cX11_restore 57 = .ok (.ireturn, 1) := by decide +kernel
theorem dX11_placeIn_0 : decode cX11_placeIn 0 = .ok (.iconst 0, 1) := by decide +kernel
theorem dX11_placeIn_1 : decode cX11_placeIn 1 = .ok (.istore_n 3, 1) := by decide +kernel
theorem dX11_placeIn_2 : decode cX11_placeIn 2 = .ok (.aload_n 0, 1) := by decide +kernel
theorem dX11_placeIn_3 : decode cX11_placeIn 3 = .ok (.bipush 38, 2) := by decide +kernel
theorem dX11_placeIn_5 : decode cX11_placeIn 5 = .ok (.bipush 10, 2) := by decide +kernel
theorem dX11_placeIn_7 : decode cX11_placeIn 7 = .ok (.iload_n 1, 1) := by decide +kernel
theorem dX11_placeIn_8 : decode cX11_placeIn 8 = .ok (.imul, 1) := by decide +kernel
theorem dX11_placeIn_9 : decode cX11_placeIn 9 = .ok (.iadd, 1) := by decide +kernel
theorem dX11_placeIn_10 : decode cX11_placeIn 10 = .ok (.iload_n 3, 1) := by decide +kernel
theorem dX11_placeIn_11 : decode cX11_placeIn 11 = .ok (.iadd, 1) := by decide +kernel
theorem dX11_placeIn_12 : decode cX11_placeIn 12 = .ok (.iaload, 1) := by decide +kernel
theorem dX11_placeIn_13 : decode cX11_placeIn 13 = .ok (.iload_n 2, 1) := by decide +kernel
theorem dX11_placeIn_14 : decode cX11_placeIn 14 = .ok (.if_icmp .eq 9, 3) := by decide +kernel
theorem dX11_placeIn_17 : decode cX11_placeIn 17 = .ok (.iinc 3 1, 3) := by decide +kernel
theorem dX11_placeIn_20 : decode cX11_placeIn 20 = .ok (.goto (-18), 3) := by decide +kernel
theorem dX11_placeIn_23 : decode cX11_placeIn 23 = .ok (.iload_n 3, 1) := by decide +kernel
theorem dX11_placeIn_24 : decode cX11_placeIn 24 = .ok (.ireturn, 1) := by decide +kernel
theorem dX11_inserts_0 : decode cX11_inserts 0 = .ok (.bipush 38, 2) := by decide +kernel
theorem dX11_inserts_2 : decode cX11_inserts 2 = .ok (.bipush 10, 2) := by decide +kernel
theorem dX11_inserts_4 : decode cX11_inserts 4 = .ok (.iload_n 1, 1) := by decide +kernel
theorem dX11_inserts_5 : decode cX11_inserts 5 = .ok (.imul, 1) := by decide +kernel
theorem dX11_inserts_6 : decode cX11_inserts 6 = .ok (.iadd, 1) := by decide +kernel
theorem dX11_inserts_7 : decode cX11_inserts 7 = .ok (.istore 4, 2) := by decide +kernel
theorem dX11_inserts_9 : decode cX11_inserts 9 = .ok (.aload_n 0, 1) := by decide +kernel
theorem dX11_inserts_10 : decode cX11_inserts 10 = .ok (.bipush 32, 2) := by decide +kernel
theorem dX11_inserts_12 : decode cX11_inserts 12 = .ok (.iload_n 1, 1) := by decide +kernel
theorem dX11_inserts_13 : decode cX11_inserts 13 = .ok (.iadd, 1) := by decide +kernel
theorem dX11_inserts_14 : decode cX11_inserts 14 = .ok (.iaload, 1) := by decide +kernel
theorem dX11_inserts_15 : decode cX11_inserts 15 = .ok (.istore 5, 2) := by decide +kernel
theorem dX11_inserts_17 : decode cX11_inserts 17 = .ok (.iload 5, 2) := by decide +kernel
theorem dX11_inserts_19 : decode cX11_inserts 19 = .ok (.iload_n 2, 1) := by decide +kernel
theorem dX11_inserts_20 : decode cX11_inserts 20 = .ok (.if_icmp .le 25, 3) := by decide +kernel
theorem dX11_inserts_23 : decode cX11_inserts 23 = .ok (.aload_n 0, 1) := by decide +kernel
theorem dX11_inserts_24 : decode cX11_inserts 24 = .ok (.iload 4, 2) := by decide +kernel
theorem dX11_inserts_26 : decode cX11_inserts 26 = .ok (.iload 5, 2) := by decide +kernel
theorem dX11_inserts_28 : decode cX11_inserts 28 = .ok (.iadd, 1) := by decide +kernel
theorem dX11_inserts_29 : decode cX11_inserts 29 = .ok (.aload_n 0, 1) := by decide +kernel
theorem dX11_inserts_30 : decode cX11_inserts 30 = .ok (.iload 4, 2) := by decide +kernel
theorem dX11_inserts_32 : decode cX11_inserts 32 = .ok (.iload 5, 2) := by decide +kernel
theorem dX11_inserts_34 : decode cX11_inserts 34 = .ok (.iadd, 1) := by decide +kernel
theorem dX11_inserts_35 : decode cX11_inserts 35 = .ok (.iconst 1, 1) := by decide +kernel
theorem dX11_inserts_36 : decode cX11_inserts 36 = .ok (.isub, 1) := by decide +kernel
theorem dX11_inserts_37 : decode cX11_inserts 37 = .ok (.iaload, 1) := by decide +kernel
theorem dX11_inserts_38 : decode cX11_inserts 38 = .ok (.iastore, 1) := by decide +kernel
theorem dX11_inserts_39 : decode cX11_inserts 39 = .ok (.iinc 5 (-1), 3) := by decide +kernel
theorem dX11_inserts_42 : decode cX11_inserts 42 = .ok (.goto (-25), 3) := by decide +kernel
theorem dX11_inserts_45 : decode cX11_inserts 45 = .ok (.aload_n 0, 1) := by decide +kernel
theorem dX11_inserts_46 : decode cX11_inserts 46 = .ok (.iload 4, 2) := by decide +kernel
theorem dX11_inserts_48 : decode cX11_inserts 48 = .ok (.iload_n 2, 1) := by decide +kernel
theorem dX11_inserts_49 : decode cX11_inserts 49 = .ok (.iadd, 1) := by decide +kernel
theorem dX11_inserts_50 : decode cX11_inserts 50 = .ok (.iload_n 3, 1) := by decide +kernel
theorem dX11_inserts_51 : decode cX11_inserts 51 = .ok (.iastore, 1) := by decide +kernel
theorem dX11_inserts_52 : decode cX11_inserts 52 = .ok (.aload_n 0, 1) := by decide +kernel
theorem dX11_inserts_53 : decode cX11_inserts 53 = .ok (.bipush 32, 2) := by decide +kernel
theorem dX11_inserts_55 : decode cX11_inserts 55 = .ok (.iload_n 1, 1) := by decide +kernel
theorem dX11_inserts_56 : decode cX11_inserts 56 = .ok (.iadd, 1) := by decide +kernel
theorem dX11_inserts_57 : decode cX11_inserts 57 = .ok (.dup2, 1) := by decide +kernel
theorem dX11_inserts_58 : decode cX11_inserts 58 = .ok (.iaload, 1) := by decide +kernel
theorem dX11_inserts_59 : decode cX11_inserts 59 = .ok (.iconst 1, 1) := by decide +kernel
theorem dX11_inserts_60 : decode cX11_inserts 60 = .ok (.iadd, 1) := by decide +kernel
theorem dX11_inserts_61 : decode cX11_inserts 61 = .ok (.iastore, 1) := by decide +kernel
theorem dX11_inserts_62 : decode cX11_inserts 62 = .ok (.return_, 1) := by decide +kernel
theorem dX11_drops_0 : decode cX11_drops 0 = .ok (.bipush 38, 2) := by decide +kernel
theorem dX11_drops_2 : decode cX11_drops 2 = .ok (.bipush 10, 2) := by decide +kernel
theorem dX11_drops_4 : decode cX11_drops 4 = .ok (.iload_n 1, 1) := by decide +kernel
theorem dX11_drops_5 : decode cX11_drops 5 = .ok (.imul, 1) := by decide +kernel
theorem dX11_drops_6 : decode cX11_drops 6 = .ok (.iadd, 1) := by decide +kernel
theorem dX11_drops_7 : decode cX11_drops 7 = .ok (.istore_n 3, 1) := by decide +kernel
theorem dX11_drops_8 : decode cX11_drops 8 = .ok (.aload_n 0, 1) := by decide +kernel
theorem dX11_drops_9 : decode cX11_drops 9 = .ok (.iload_n 1, 1) := by decide +kernel
theorem dX11_drops_10 : decode cX11_drops 10 = .ok (.iload_n 2, 1) := by decide +kernel
theorem dX11_drops_11 : decode cX11_drops 11 = .ok (.invokestatic 211, 3) := by decide +kernel
theorem dX11_drops_14 : decode cX11_drops 14 = .ok (.istore 4, 2) := by decide +kernel
theorem dX11_drops_16 : decode cX11_drops 16 = .ok (.iload 4, 2) := by decide +kernel
theorem dX11_drops_18 : decode cX11_drops 18 = .ok (.iconst 1, 1) := by decide +kernel
theorem dX11_drops_19 : decode cX11_drops 19 = .ok (.iadd, 1) := by decide +kernel
theorem dX11_drops_20 : decode cX11_drops 20 = .ok (.aload_n 0, 1) := by decide +kernel
theorem dX11_drops_21 : decode cX11_drops 21 = .ok (.bipush 32, 2) := by decide +kernel
theorem dX11_drops_23 : decode cX11_drops 23 = .ok (.iload_n 1, 1) := by decide +kernel
theorem dX11_drops_24 : decode cX11_drops 24 = .ok (.iadd, 1) := by decide +kernel
theorem dX11_drops_25 : decode cX11_drops 25 = .ok (.iaload, 1) := by decide +kernel
theorem dX11_drops_26 : decode cX11_drops 26 = .ok (.if_icmp .ge 23, 3) := by decide +kernel
theorem dX11_drops_29 : decode cX11_drops 29 = .ok (.aload_n 0, 1) := by decide +kernel
theorem dX11_drops_30 : decode cX11_drops 30 = .ok (.iload_n 3, 1) := by decide +kernel
theorem dX11_drops_31 : decode cX11_drops 31 = .ok (.iload 4, 2) := by decide +kernel
theorem dX11_drops_33 : decode cX11_drops 33 = .ok (.iadd, 1) := by decide +kernel
theorem dX11_drops_34 : decode cX11_drops 34 = .ok (.aload_n 0, 1) := by decide +kernel
theorem dX11_drops_35 : decode cX11_drops 35 = .ok (.iload_n 3, 1) := by decide +kernel
theorem dX11_drops_36 : decode cX11_drops 36 = .ok (.iload 4, 2) := by decide +kernel
theorem dX11_drops_38 : decode cX11_drops 38 = .ok (.iadd, 1) := by decide +kernel
theorem dX11_drops_39 : decode cX11_drops 39 = .ok (.iconst 1, 1) := by decide +kernel
theorem dX11_drops_40 : decode cX11_drops 40 = .ok (.iadd, 1) := by decide +kernel
theorem dX11_drops_41 : decode cX11_drops 41 = .ok (.iaload, 1) := by decide +kernel
theorem dX11_drops_42 : decode cX11_drops 42 = .ok (.iastore, 1) := by decide +kernel
theorem dX11_drops_43 : decode cX11_drops 43 = .ok (.iinc 4 1, 3) := by decide +kernel
theorem dX11_drops_46 : decode cX11_drops 46 = .ok (.goto (-30), 3) := by decide +kernel
theorem dX11_drops_49 : decode cX11_drops 49 = .ok (.aload_n 0, 1) := by decide +kernel
theorem dX11_drops_50 : decode cX11_drops 50 = .ok (.bipush 32, 2) := by decide +kernel
theorem dX11_drops_52 : decode cX11_drops 52 = .ok (.iload_n 1, 1) := by decide +kernel
theorem dX11_drops_53 : decode cX11_drops 53 = .ok (.iadd, 1) := by decide +kernel
theorem dX11_drops_54 : decode cX11_drops 54 = .ok (.dup2, 1) := by decide +kernel
theorem dX11_drops_55 : decode cX11_drops 55 = .ok (.iaload, 1) := by decide +kernel
theorem dX11_drops_56 : decode cX11_drops 56 = .ok (.iconst 1, 1) := by decide +kernel
theorem dX11_drops_57 : decode cX11_drops 57 = .ok (.isub, 1) := by decide +kernel
theorem dX11_drops_58 : decode cX11_drops 58 = .ok (.iastore, 1) := by decide +kernel
theorem dX11_drops_59 : decode cX11_drops 59 = .ok (.return_, 1) := by decide +kernel
theorem dX11_isCorner_0 : decode cX11_isCorner 0 = .ok (.aload_n 0, 1) := by decide +kernel
theorem dX11_isCorner_1 : decode cX11_isCorner 1 = .ok (.iload_n 1, 1) := by decide +kernel
theorem dX11_isCorner_2 : decode cX11_isCorner 2 = .ok (.invokevirtual 215, 3) := by decide +kernel
theorem dX11_isCorner_5 : decode cX11_isCorner 5 = .ok (.ifCond .eq 30, 3) := by decide +kernel
theorem dX11_isCorner_8 : decode cX11_isCorner 8 = .ok (.iload_n 2, 1) := by decide +kernel
theorem dX11_isCorner_9 : decode cX11_isCorner 9 = .ok (.ifCond .eq 22, 3) := by decide +kernel
theorem dX11_isCorner_12 : decode cX11_isCorner 12 = .ok (.iload_n 2, 1) := by decide +kernel
theorem dX11_isCorner_13 : decode cX11_isCorner 13 = .ok (.iconst 0, 1) := by decide +kernel
theorem dX11_isCorner_14 : decode cX11_isCorner 14 = .ok (.aload_n 0, 1) := by decide +kernel
theorem dX11_isCorner_15 : decode cX11_isCorner 15 = .ok (.getfield 40, 3) := by decide +kernel
theorem dX11_isCorner_18 : decode cX11_isCorner 18 = .ok (.bipush 32, 2) := by decide +kernel
theorem dX11_isCorner_20 : decode cX11_isCorner 20 = .ok (.iload_n 1, 1) := by decide +kernel
theorem dX11_isCorner_21 : decode cX11_isCorner 21 = .ok (.iadd, 1) := by decide +kernel
theorem dX11_isCorner_22 : decode cX11_isCorner 22 = .ok (.iaload, 1) := by decide +kernel
theorem dX11_isCorner_23 : decode cX11_isCorner 23 = .ok (.iconst 1, 1) := by decide +kernel
theorem dX11_isCorner_24 : decode cX11_isCorner 24 = .ok (.isub, 1) := by decide +kernel
theorem dX11_isCorner_25 : decode cX11_isCorner 25 = .ok (.invokestatic 204, 3) := by decide +kernel
theorem dX11_isCorner_28 : decode cX11_isCorner 28 = .ok (.ifCond .eq 7, 3) := by decide +kernel
theorem dX11_isCorner_31 : decode cX11_isCorner 31 = .ok (.iconst 1, 1) := by decide +kernel
theorem dX11_isCorner_32 : decode cX11_isCorner 32 = .ok (.goto 4, 3) := by decide +kernel
theorem dX11_isCorner_35 : decode cX11_isCorner 35 = .ok (.iconst 0, 1) := by decide +kernel
theorem dX11_isCorner_36 : decode cX11_isCorner 36 = .ok (.ireturn, 1) := by decide +kernel
theorem dX11_lay_0 : decode cX11_lay 0 = .ok (.aload_n 0, 1) := by decide +kernel
theorem dX11_lay_1 : decode cX11_lay 1 = .ok (.getfield 40, 3) := by decide +kernel
theorem dX11_lay_4 : decode cX11_lay 4 = .ok (.iconst 1, 1) := by decide +kernel
theorem dX11_lay_5 : decode cX11_lay 5 = .ok (.iaload, 1) := by decide +kernel
theorem dX11_lay_6 : decode cX11_lay 6 = .ok (.bipush 10, 2) := by decide +kernel
theorem dX11_lay_8 : decode cX11_lay 8 = .ok (.if_icmp .eq 27, 3) := by decide +kernel
theorem dX11_lay_11 : decode cX11_lay 11 = .ok (.aload_n 0, 1) := by decide +kernel
theorem dX11_lay_12 : decode cX11_lay 12 = .ok (.iload_n 1, 1) := by decide +kernel
theorem dX11_lay_13 : decode cX11_lay 13 = .ok (.iload_n 2, 1) := by decide +kernel
theorem dX11_lay_14 : decode cX11_lay 14 = .ok (.invokevirtual 218, 3) := by decide +kernel
theorem dX11_lay_17 : decode cX11_lay 17 = .ok (.ifCond .eq 18, 3) := by decide +kernel
theorem dX11_lay_20 : decode cX11_lay 20 = .ok (.aload_n 0, 1) := by decide +kernel
theorem dX11_lay_21 : decode cX11_lay 21 = .ok (.iload_n 3, 1) := by decide +kernel
theorem dX11_lay_22 : decode cX11_lay 22 = .ok (.iload 4, 2) := by decide +kernel
theorem dX11_lay_24 : decode cX11_lay 24 = .ok (.invokevirtual 218, 3) := by decide +kernel
theorem dX11_lay_27 : decode cX11_lay 27 = .ok (.ifCond .eq 8, 3) := by decide +kernel
theorem dX11_lay_30 : decode cX11_lay 30 = .ok (.iload_n 1, 1) := by decide +kernel
theorem dX11_lay_31 : decode cX11_lay 31 = .ok (.iload_n 3, 1) := by decide +kernel
theorem dX11_lay_32 : decode cX11_lay 32 = .ok (.if_icmp .ne 5, 3) := by decide +kernel
theorem dX11_lay_35 : decode cX11_lay 35 = .ok (.iconst (-1), 1) := by decide +kernel
theorem dX11_lay_36 : decode cX11_lay 36 = .ok (.ireturn, 1) := by decide +kernel
theorem dX11_lay_37 : decode cX11_lay 37 = .ok (.aload_n 0, 1) := by decide +kernel
theorem dX11_lay_38 : decode cX11_lay 38 = .ok (.invokevirtual 221, 3) := by decide +kernel
theorem dX11_lay_41 : decode cX11_lay 41 = .ok (.aload_n 0, 1) := by decide +kernel
theorem dX11_lay_42 : decode cX11_lay 42 = .ok (.getfield 40, 3) := by decide +kernel
theorem dX11_lay_45 : decode cX11_lay 45 = .ok (.iconst 1, 1) := by decide +kernel
theorem dX11_lay_46 : decode cX11_lay 46 = .ok (.iaload, 1) := by decide +kernel
theorem dX11_lay_47 : decode cX11_lay 47 = .ok (.istore 6, 2) := by decide +kernel
theorem dX11_lay_49 : decode cX11_lay 49 = .ok (.aload_n 0, 1) := by decide +kernel
theorem dX11_lay_50 : decode cX11_lay 50 = .ok (.getfield 40, 3) := by decide +kernel
theorem dX11_lay_53 : decode cX11_lay 53 = .ok (.iconst 2, 1) := by decide +kernel
theorem dX11_lay_54 : decode cX11_lay 54 = .ok (.iconst 2, 1) := by decide +kernel
theorem dX11_lay_55 : decode cX11_lay 55 = .ok (.iload 6, 2) := by decide +kernel
theorem dX11_lay_57 : decode cX11_lay 57 = .ok (.imul, 1) := by decide +kernel
theorem dX11_lay_58 : decode cX11_lay 58 = .ok (.iadd, 1) := by decide +kernel
theorem dX11_lay_59 : decode cX11_lay 59 = .ok (.iload_n 1, 1) := by decide +kernel
theorem dX11_lay_60 : decode cX11_lay 60 = .ok (.iastore, 1) := by decide +kernel
theorem dX11_lay_61 : decode cX11_lay 61 = .ok (.aload_n 0, 1) := by decide +kernel
theorem dX11_lay_62 : decode cX11_lay 62 = .ok (.getfield 40, 3) := by decide +kernel
theorem dX11_lay_65 : decode cX11_lay 65 = .ok (.iconst 2, 1) := by decide +kernel
theorem dX11_lay_66 : decode cX11_lay 66 = .ok (.iconst 2, 1) := by decide +kernel
theorem dX11_lay_67 : decode cX11_lay 67 = .ok (.iload 6, 2) := by decide +kernel
theorem dX11_lay_69 : decode cX11_lay 69 = .ok (.imul, 1) := by decide +kernel
theorem dX11_lay_70 : decode cX11_lay 70 = .ok (.iadd, 1) := by decide +kernel
theorem dX11_lay_71 : decode cX11_lay 71 = .ok (.iconst 1, 1) := by decide +kernel
theorem dX11_lay_72 : decode cX11_lay 72 = .ok (.iadd, 1) := by decide +kernel
theorem dX11_lay_73 : decode cX11_lay 73 = .ok (.iload_n 3, 1) := by decide +kernel
theorem dX11_lay_74 : decode cX11_lay 74 = .ok (.iastore, 1) := by decide +kernel
theorem dX11_lay_75 : decode cX11_lay 75 = .ok (.aload_n 0, 1) := by decide +kernel
theorem dX11_lay_76 : decode cX11_lay 76 = .ok (.getfield 40, 3) := by decide +kernel
theorem dX11_lay_79 : decode cX11_lay 79 = .ok (.bipush 22, 2) := by decide +kernel
theorem dX11_lay_81 : decode cX11_lay 81 = .ok (.iload 6, 2) := by decide +kernel
theorem dX11_lay_83 : decode cX11_lay 83 = .ok (.iadd, 1) := by decide +kernel
theorem dX11_lay_84 : decode cX11_lay 84 = .ok (.iload 5, 2) := by decide +kernel
theorem dX11_lay_86 : decode cX11_lay 86 = .ok (.ifCond .eq 7, 3) := by decide +kernel
theorem dX11_lay_89 : decode cX11_lay 89 = .ok (.iconst 1, 1) := by decide +kernel
theorem dX11_lay_90 : decode cX11_lay 90 = .ok (.goto 4, 3) := by decide +kernel
theorem dX11_lay_93 : decode cX11_lay 93 = .ok (.iconst 0, 1) := by decide +kernel
theorem dX11_lay_94 : decode cX11_lay 94 = .ok (.iastore, 1) := by decide +kernel
theorem dX11_lay_95 : decode cX11_lay 95 = .ok (.aload_n 0, 1) := by decide +kernel
theorem dX11_lay_96 : decode cX11_lay 96 = .ok (.getfield 40, 3) := by decide +kernel
theorem dX11_lay_99 : decode cX11_lay 99 = .ok (.iload_n 1, 1) := by decide +kernel
theorem dX11_lay_100 : decode cX11_lay 100 = .ok (.aload_n 0, 1) := by decide +kernel
theorem dX11_lay_101 : decode cX11_lay 101 = .ok (.getfield 40, 3) := by decide +kernel
theorem dX11_lay_104 : decode cX11_lay 104 = .ok (.bipush 32, 2) := by decide +kernel
theorem dX11_lay_106 : decode cX11_lay 106 = .ok (.iload_n 1, 1) := by decide +kernel
theorem dX11_lay_107 : decode cX11_lay 107 = .ok (.iadd, 1) := by decide +kernel
theorem dX11_lay_108 : decode cX11_lay 108 = .ok (.iaload, 1) := by decide +kernel
theorem dX11_lay_109 : decode cX11_lay 109 = .ok (.ifCond .ne 7, 3) := by decide +kernel
theorem dX11_lay_112 : decode cX11_lay 112 = .ok (.iconst 0, 1) := by decide +kernel
theorem dX11_lay_113 : decode cX11_lay 113 = .ok (.goto 6, 3) := by decide +kernel
theorem dX11_lay_116 : decode cX11_lay 116 = .ok (.iload_n 2, 1) := by decide +kernel
theorem dX11_lay_117 : decode cX11_lay 117 = .ok (.iconst 1, 1) := by decide +kernel
theorem dX11_lay_118 : decode cX11_lay 118 = .ok (.iadd, 1) := by decide +kernel
theorem dX11_lay_119 : decode cX11_lay 119 = .ok (.iload 6, 2) := by decide +kernel
theorem dX11_lay_121 : decode cX11_lay 121 = .ok (.invokestatic 224, 3) := by decide +kernel
theorem dX11_lay_124 : decode cX11_lay 124 = .ok (.aload_n 0, 1) := by decide +kernel
theorem dX11_lay_125 : decode cX11_lay 125 = .ok (.getfield 40, 3) := by decide +kernel
theorem dX11_lay_128 : decode cX11_lay 128 = .ok (.iload_n 3, 1) := by decide +kernel
theorem dX11_lay_129 : decode cX11_lay 129 = .ok (.aload_n 0, 1) := by decide +kernel
theorem dX11_lay_130 : decode cX11_lay 130 = .ok (.getfield 40, 3) := by decide +kernel
theorem dX11_lay_133 : decode cX11_lay 133 = .ok (.bipush 32, 2) := by decide +kernel
theorem dX11_lay_135 : decode cX11_lay 135 = .ok (.iload_n 3, 1) := by decide +kernel
theorem dX11_lay_136 : decode cX11_lay 136 = .ok (.iadd, 1) := by decide +kernel
theorem dX11_lay_137 : decode cX11_lay 137 = .ok (.iaload, 1) := by decide +kernel
theorem dX11_lay_138 : decode cX11_lay 138 = .ok (.ifCond .ne 7, 3) := by decide +kernel
theorem dX11_lay_141 : decode cX11_lay 141 = .ok (.iconst 0, 1) := by decide +kernel
theorem dX11_lay_142 : decode cX11_lay 142 = .ok (.goto 7, 3) := by decide +kernel
theorem dX11_lay_145 : decode cX11_lay 145 = .ok (.iload 4, 2) := by decide +kernel
theorem dX11_lay_147 : decode cX11_lay 147 = .ok (.iconst 1, 1) := by decide +kernel
theorem dX11_lay_148 : decode cX11_lay 148 = .ok (.iadd, 1) := by decide +kernel
theorem dX11_lay_149 : decode cX11_lay 149 = .ok (.iload 6, 2) := by decide +kernel
theorem dX11_lay_151 : decode cX11_lay 151 = .ok (.invokestatic 224, 3) := by decide +kernel
theorem dX11_lay_154 : decode cX11_lay 154 = .ok (.aload_n 0, 1) := by decide +kernel
theorem dX11_lay_155 : decode cX11_lay 155 = .ok (.getfield 40, 3) := by decide +kernel
theorem dX11_lay_158 : decode cX11_lay 158 = .ok (.iconst 1, 1) := by decide +kernel
theorem dX11_lay_159 : decode cX11_lay 159 = .ok (.dup2, 1) := by decide +kernel
theorem dX11_lay_160 : decode cX11_lay 160 = .ok (.iaload, 1) := by decide +kernel
theorem dX11_lay_161 : decode cX11_lay 161 = .ok (.iconst 1, 1) := by decide +kernel
theorem dX11_lay_162 : decode cX11_lay 162 = .ok (.iadd, 1) := by decide +kernel
theorem dX11_lay_163 : decode cX11_lay 163 = .ok (.iastore, 1) := by decide +kernel
theorem dX11_lay_164 : decode cX11_lay 164 = .ok (.iload 6, 2) := by decide +kernel
theorem dX11_lay_166 : decode cX11_lay 166 = .ok (.ireturn, 1) := by decide +kernel
theorem dX11_closesUp_0 : decode cX11_closesUp 0 = .ok (.iload_n 1, 1) := by decide +kernel
theorem dX11_closesUp_1 : decode cX11_closesUp 1 = .ok (.istore_n 2, 1) := by decide +kernel
theorem dX11_closesUp_2 : decode cX11_closesUp 2 = .ok (.iload_n 2, 1) := by decide +kernel
theorem dX11_closesUp_3 : decode cX11_closesUp 3 = .ok (.iconst 1, 1) := by decide +kernel
theorem dX11_closesUp_4 : decode cX11_closesUp 4 = .ok (.iadd, 1) := by decide +kernel
theorem dX11_closesUp_5 : decode cX11_closesUp 5 = .ok (.aload_n 0, 1) := by decide +kernel
theorem dX11_closesUp_6 : decode cX11_closesUp 6 = .ok (.iconst 1, 1) := by decide +kernel
theorem dX11_closesUp_7 : decode cX11_closesUp 7 = .ok (.iaload, 1) := by decide +kernel
theorem dX11_closesUp_8 : decode cX11_closesUp 8 = .ok (.if_icmp .ge 57, 3) := by decide +kernel
theorem dX11_closesUp_11 : decode cX11_closesUp 11 = .ok (.aload_n 0, 1) := by decide +kernel
theorem dX11_closesUp_12 : decode cX11_closesUp 12 = .ok (.iconst 2, 1) := by decide +kernel
theorem dX11_closesUp_13 : decode cX11_closesUp 13 = .ok (.iconst 2, 1) := by decide +kernel
theorem dX11_closesUp_14 : decode cX11_closesUp 14 = .ok (.iload_n 2, 1) := by decide +kernel
theorem dX11_closesUp_15 : decode cX11_closesUp 15 = .ok (.imul, 1) := by decide +kernel
theorem dX11_closesUp_16 : decode cX11_closesUp 16 = .ok (.iadd, 1) := by decide +kernel
theorem dX11_closesUp_17 : decode cX11_closesUp 17 = .ok (.aload_n 0, 1) := by decide +kernel
theorem dX11_closesUp_18 : decode cX11_closesUp 18 = .ok (.iconst 2, 1) := by decide +kernel
theorem dX11_closesUp_19 : decode cX11_closesUp 19 = .ok (.iconst 2, 1) := by decide +kernel
theorem dX11_closesUp_20 : decode cX11_closesUp 20 = .ok (.iload_n 2, 1) := by decide +kernel
theorem dX11_closesUp_21 : decode cX11_closesUp 21 = .ok (.imul, 1) := by decide +kernel
theorem dX11_closesUp_22 : decode cX11_closesUp 22 = .ok (.iadd, 1) := by decide +kernel
theorem dX11_closesUp_23 : decode cX11_closesUp 23 = .ok (.iconst 2, 1) := by decide +kernel
theorem dX11_closesUp_24 : decode cX11_closesUp 24 = .ok (.iadd, 1) := by decide +kernel
theorem dX11_closesUp_25 : decode cX11_closesUp 25 = .ok (.iaload, 1) := by decide +kernel
theorem dX11_closesUp_26 : decode cX11_closesUp 26 = .ok (.iastore, 1) := by decide +kernel
theorem dX11_closesUp_27 : decode cX11_closesUp 27 = .ok (.aload_n 0, 1) := by decide +kernel
theorem dX11_closesUp_28 : decode cX11_closesUp 28 = .ok (.iconst 2, 1) := by decide +kernel
theorem dX11_closesUp_29 : decode cX11_closesUp 29 = .ok (.iconst 2, 1) := by decide +kernel
theorem dX11_closesUp_30 : decode cX11_closesUp 30 = .ok (.iload_n 2, 1) := by decide +kernel
theorem dX11_closesUp_31 : decode cX11_closesUp 31 = .ok (.imul, 1) := by decide +kernel
theorem dX11_closesUp_32 : decode cX11_closesUp 32 = .ok (.iadd, 1) := by decide +kernel
theorem dX11_closesUp_33 : decode cX11_closesUp 33 = .ok (.iconst 1, 1) := by decide +kernel
theorem dX11_closesUp_34 : decode cX11_closesUp 34 = .ok (.iadd, 1) := by decide +kernel
theorem dX11_closesUp_35 : decode cX11_closesUp 35 = .ok (.aload_n 0, 1) := by decide +kernel
theorem dX11_closesUp_36 : decode cX11_closesUp 36 = .ok (.iconst 2, 1) := by decide +kernel
theorem dX11_closesUp_37 : decode cX11_closesUp 37 = .ok (.iconst 2, 1) := by decide +kernel
theorem dX11_closesUp_38 : decode cX11_closesUp 38 = .ok (.iload_n 2, 1) := by decide +kernel
theorem dX11_closesUp_39 : decode cX11_closesUp 39 = .ok (.imul, 1) := by decide +kernel
theorem dX11_closesUp_40 : decode cX11_closesUp 40 = .ok (.iadd, 1) := by decide +kernel
theorem dX11_closesUp_41 : decode cX11_closesUp 41 = .ok (.iconst 3, 1) := by decide +kernel
theorem dX11_closesUp_42 : decode cX11_closesUp 42 = .ok (.iadd, 1) := by decide +kernel
theorem dX11_closesUp_43 : decode cX11_closesUp 43 = .ok (.iaload, 1) := by decide +kernel
theorem dX11_closesUp_44 : decode cX11_closesUp 44 = .ok (.iastore, 1) := by decide +kernel
theorem dX11_closesUp_45 : decode cX11_closesUp 45 = .ok (.aload_n 0, 1) := by decide +kernel
theorem dX11_closesUp_46 : decode cX11_closesUp 46 = .ok (.bipush 22, 2) := by decide +kernel
theorem dX11_closesUp_48 : decode cX11_closesUp 48 = .ok (.iload_n 2, 1) := by decide +kernel
theorem dX11_closesUp_49 : decode cX11_closesUp 49 = .ok (.iadd, 1) := by decide +kernel
theorem dX11_closesUp_50 : decode cX11_closesUp 50 = .ok (.aload_n 0, 1) := by decide +kernel
theorem dX11_closesUp_51 : decode cX11_closesUp 51 = .ok (.bipush 22, 2) := by decide +kernel
theorem dX11_closesUp_53 : decode cX11_closesUp 53 = .ok (.iload_n 2, 1) := by decide +kernel
theorem dX11_closesUp_54 : decode cX11_closesUp 54 = .ok (.iadd, 1) := by decide +kernel
theorem dX11_closesUp_55 : decode cX11_closesUp 55 = .ok (.iconst 1, 1) := by decide +kernel
theorem dX11_closesUp_56 : decode cX11_closesUp 56 = .ok (.iadd, 1) := by decide +kernel
theorem dX11_closesUp_57 : decode cX11_closesUp 57 = .ok (.iaload, 1) := by decide +kernel
theorem dX11_closesUp_58 : decode cX11_closesUp 58 = .ok (.iastore, 1) := by decide +kernel
theorem dX11_closesUp_59 : decode cX11_closesUp 59 = .ok (.iinc 2 1, 3) := by decide +kernel
theorem dX11_closesUp_62 : decode cX11_closesUp 62 = .ok (.goto (-60), 3) := by decide +kernel
theorem dX11_closesUp_65 : decode cX11_closesUp 65 = .ok (.aload_n 0, 1) := by decide +kernel
theorem dX11_closesUp_66 : decode cX11_closesUp 66 = .ok (.iconst 1, 1) := by decide +kernel
theorem dX11_closesUp_67 : decode cX11_closesUp 67 = .ok (.dup2, 1) := by decide +kernel
theorem dX11_closesUp_68 : decode cX11_closesUp 68 = .ok (.iaload, 1) := by decide +kernel
theorem dX11_closesUp_69 : decode cX11_closesUp 69 = .ok (.iconst 1, 1) := by decide +kernel
theorem dX11_closesUp_70 : decode cX11_closesUp 70 = .ok (.isub, 1) := by decide +kernel
theorem dX11_closesUp_71 : decode cX11_closesUp 71 = .ok (.iastore, 1) := by decide +kernel
theorem dX11_closesUp_72 : decode cX11_closesUp 72 = .ok (.iconst 0, 1) := by decide +kernel
theorem dX11_closesUp_73 : decode cX11_closesUp 73 = .ok (.istore_n 2, 1) := by decide +kernel
theorem dX11_closesUp_74 : decode cX11_closesUp 74 = .ok (.iload_n 2, 1) := by decide +kernel
theorem dX11_closesUp_75 : decode cX11_closesUp 75 = .ok (.aload_n 0, 1) := by decide +kernel
theorem dX11_closesUp_76 : decode cX11_closesUp 76 = .ok (.iconst 0, 1) := by decide +kernel
theorem dX11_closesUp_77 : decode cX11_closesUp 77 = .ok (.iaload, 1) := by decide +kernel
theorem dX11_closesUp_78 : decode cX11_closesUp 78 = .ok (.if_icmp .ge 57, 3) := by decide +kernel
theorem dX11_closesUp_81 : decode cX11_closesUp 81 = .ok (.iconst 0, 1) := by decide +kernel
theorem dX11_closesUp_82 : decode cX11_closesUp 82 = .ok (.istore_n 3, 1) := by decide +kernel
theorem dX11_closesUp_83 : decode cX11_closesUp 83 = .ok (.iload_n 3, 1) := by decide +kernel
theorem dX11_closesUp_84 : decode cX11_closesUp 84 = .ok (.aload_n 0, 1) := by decide +kernel
theorem dX11_closesUp_85 : decode cX11_closesUp 85 = .ok (.bipush 32, 2) := by decide +kernel
theorem dX11_closesUp_87 : decode cX11_closesUp 87 = .ok (.iload_n 2, 1) := by decide +kernel
theorem dX11_closesUp_88 : decode cX11_closesUp 88 = .ok (.iadd, 1) := by decide +kernel
theorem dX11_closesUp_89 : decode cX11_closesUp 89 = .ok (.iaload, 1) := by decide +kernel
theorem dX11_closesUp_90 : decode cX11_closesUp 90 = .ok (.if_icmp .ge 39, 3) := by decide +kernel
theorem dX11_closesUp_93 : decode cX11_closesUp 93 = .ok (.aload_n 0, 1) := by decide +kernel
theorem dX11_closesUp_94 : decode cX11_closesUp 94 = .ok (.bipush 38, 2) := by decide +kernel
theorem dX11_closesUp_96 : decode cX11_closesUp 96 = .ok (.bipush 10, 2) := by decide +kernel
theorem dX11_closesUp_98 : decode cX11_closesUp 98 = .ok (.iload_n 2, 1) := by decide +kernel
theorem dX11_closesUp_99 : decode cX11_closesUp 99 = .ok (.imul, 1) := by decide +kernel
theorem dX11_closesUp_100 : decode cX11_closesUp 100 = .ok (.iadd, 1) := by decide +kernel
theorem dX11_closesUp_101 : decode cX11_closesUp 101 = .ok (.iload_n 3, 1) := by decide +kernel
theorem dX11_closesUp_102 : decode cX11_closesUp 102 = .ok (.iadd, 1) := by decide +kernel
theorem dX11_closesUp_103 : decode cX11_closesUp 103 = .ok (.iaload, 1) := by decide +kernel
theorem dX11_closesUp_104 : decode cX11_closesUp 104 = .ok (.iload_n 1, 1) := by decide +kernel
theorem dX11_closesUp_105 : decode cX11_closesUp 105 = .ok (.if_icmp .le 18, 3) := by decide +kernel
theorem dX11_closesUp_108 : decode cX11_closesUp 108 = .ok (.aload_n 0, 1) := by decide +kernel
theorem dX11_closesUp_109 : decode cX11_closesUp 109 = .ok (.bipush 38, 2) := by decide +kernel
theorem dX11_closesUp_111 : decode cX11_closesUp 111 = .ok (.bipush 10, 2) := by decide +kernel
theorem dX11_closesUp_113 : decode cX11_closesUp 113 = .ok (.iload_n 2, 1) := by decide +kernel
theorem dX11_closesUp_114 : decode cX11_closesUp 114 = .ok (.imul, 1) := by decide +kernel
theorem dX11_closesUp_115 : decode cX11_closesUp 115 = .ok (.iadd, 1) := by decide +kernel
theorem dX11_closesUp_116 : decode cX11_closesUp 116 = .ok (.iload_n 3, 1) := by decide +kernel
theorem dX11_closesUp_117 : decode cX11_closesUp 117 = .ok (.iadd, 1) := by decide +kernel
theorem dX11_closesUp_118 : decode cX11_closesUp 118 = .ok (.dup2, 1) := by decide +kernel
theorem dX11_closesUp_119 : decode cX11_closesUp 119 = .ok (.iaload, 1) := by decide +kernel
theorem dX11_closesUp_120 : decode cX11_closesUp 120 = .ok (.iconst 1, 1) := by decide +kernel
theorem dX11_closesUp_121 : decode cX11_closesUp 121 = .ok (.isub, 1) := by decide +kernel
theorem dX11_closesUp_122 : decode cX11_closesUp 122 = .ok (.iastore, 1) := by decide +kernel
theorem dX11_closesUp_123 : decode cX11_closesUp 123 = .ok (.iinc 3 1, 3) := by decide +kernel
theorem dX11_closesUp_126 : decode cX11_closesUp 126 = .ok (.goto (-43), 3) := by decide +kernel
theorem dX11_closesUp_129 : decode cX11_closesUp 129 = .ok (.iinc 2 1, 3) := by decide +kernel
theorem dX11_closesUp_132 : decode cX11_closesUp 132 = .ok (.goto (-58), 3) := by decide +kernel
theorem dX11_closesUp_135 : decode cX11_closesUp 135 = .ok (.return_, 1) := by decide +kernel
theorem dX11_takesOut_0 : decode cX11_takesOut 0 = .ok (.aload_n 0, 1) := by decide +kernel
theorem dX11_takesOut_1 : decode cX11_takesOut 1 = .ok (.aload_n 0, 1) := by decide +kernel
theorem dX11_takesOut_2 : decode cX11_takesOut 2 = .ok (.iconst 2, 1) := by decide +kernel
theorem dX11_takesOut_3 : decode cX11_takesOut 3 = .ok (.iconst 2, 1) := by decide +kernel
theorem dX11_takesOut_4 : decode cX11_takesOut 4 = .ok (.iload_n 1, 1) := by decide +kernel
theorem dX11_takesOut_5 : decode cX11_takesOut 5 = .ok (.imul, 1) := by decide +kernel
theorem dX11_takesOut_6 : decode cX11_takesOut 6 = .ok (.iadd, 1) := by decide +kernel
theorem dX11_takesOut_7 : decode cX11_takesOut 7 = .ok (.iaload, 1) := by decide +kernel
theorem dX11_takesOut_8 : decode cX11_takesOut 8 = .ok (.iload_n 1, 1) := by decide +kernel
theorem dX11_takesOut_9 : decode cX11_takesOut 9 = .ok (.invokestatic 228, 3) := by decide +kernel
theorem dX11_takesOut_12 : decode cX11_takesOut 12 = .ok (.aload_n 0, 1) := by decide +kernel
theorem dX11_takesOut_13 : decode cX11_takesOut 13 = .ok (.aload_n 0, 1) := by decide +kernel
theorem dX11_takesOut_14 : decode cX11_takesOut 14 = .ok (.iconst 2, 1) := by decide +kernel
theorem dX11_takesOut_15 : decode cX11_takesOut 15 = .ok (.iconst 2, 1) := by decide +kernel
theorem dX11_takesOut_16 : decode cX11_takesOut 16 = .ok (.iload_n 1, 1) := by decide +kernel
theorem dX11_takesOut_17 : decode cX11_takesOut 17 = .ok (.imul, 1) := by decide +kernel
theorem dX11_takesOut_18 : decode cX11_takesOut 18 = .ok (.iadd, 1) := by decide +kernel
theorem dX11_takesOut_19 : decode cX11_takesOut 19 = .ok (.iconst 1, 1) := by decide +kernel
theorem dX11_takesOut_20 : decode cX11_takesOut 20 = .ok (.iadd, 1) := by decide +kernel
theorem dX11_takesOut_21 : decode cX11_takesOut 21 = .ok (.iaload, 1) := by decide +kernel
theorem dX11_takesOut_22 : decode cX11_takesOut 22 = .ok (.iload_n 1, 1) := by decide +kernel
theorem dX11_takesOut_23 : decode cX11_takesOut 23 = .ok (.invokestatic 228, 3) := by decide +kernel
theorem dX11_takesOut_26 : decode cX11_takesOut 26 = .ok (.aload_n 0, 1) := by decide +kernel
theorem dX11_takesOut_27 : decode cX11_takesOut 27 = .ok (.iload_n 1, 1) := by decide +kernel
theorem dX11_takesOut_28 : decode cX11_takesOut 28 = .ok (.invokestatic 231, 3) := by decide +kernel
theorem dX11_takesOut_31 : decode cX11_takesOut 31 = .ok (.return_, 1) := by decide +kernel
theorem dX11_goes_0 : decode cX11_goes 0 = .ok (.aload_n 0, 1) := by decide +kernel
theorem dX11_goes_1 : decode cX11_goes 1 = .ok (.iload_n 1, 1) := by decide +kernel
theorem dX11_goes_2 : decode cX11_goes 2 = .ok (.invokevirtual 235, 3) := by decide +kernel
theorem dX11_goes_5 : decode cX11_goes 5 = .ok (.ifCond .ne 5, 3) := by decide +kernel
theorem dX11_goes_8 : decode cX11_goes 8 = .ok (.iconst 0, 1) := by decide +kernel
theorem dX11_goes_9 : decode cX11_goes 9 = .ok (.ireturn, 1) := by decide +kernel
theorem dX11_goes_10 : decode cX11_goes 10 = .ok (.aload_n 0, 1) := by decide +kernel
theorem dX11_goes_11 : decode cX11_goes 11 = .ok (.invokevirtual 221, 3) := by decide +kernel
theorem dX11_goes_14 : decode cX11_goes 14 = .ok (.aload_n 0, 1) := by decide +kernel
theorem dX11_goes_15 : decode cX11_goes 15 = .ok (.getfield 40, 3) := by decide +kernel
theorem dX11_goes_18 : decode cX11_goes 18 = .ok (.iload_n 1, 1) := by decide +kernel
theorem dX11_goes_19 : decode cX11_goes 19 = .ok (.invokestatic 238, 3) := by decide +kernel
theorem dX11_goes_22 : decode cX11_goes 22 = .ok (.iconst 1, 1) := by decide +kernel
theorem dX11_goes_23 : decode cX11_goes 23 = .ok (.ireturn, 1) := by decide +kernel
theorem dX11_twist_0 : decode cX11_twist 0 = .ok (.aload_n 0, 1) := by decide +kernel
theorem dX11_twist_1 : decode cX11_twist 1 = .ok (.iload_n 1, 1) := by decide +kernel
theorem dX11_twist_2 : decode cX11_twist 2 = .ok (.invokevirtual 235, 3) := by decide +kernel
theorem dX11_twist_5 : decode cX11_twist 5 = .ok (.ifCond .ne 5, 3) := by decide +kernel
theorem dX11_twist_8 : decode cX11_twist 8 = .ok (.iconst 0, 1) := by decide +kernel
theorem dX11_twist_9 : decode cX11_twist 9 = .ok (.ireturn, 1) := by decide +kernel
theorem dX11_twist_10 : decode cX11_twist 10 = .ok (.aload_n 0, 1) := by decide +kernel
theorem dX11_twist_11 : decode cX11_twist 11 = .ok (.invokevirtual 221, 3) := by decide +kernel
theorem dX11_twist_14 : decode cX11_twist 14 = .ok (.aload_n 0, 1) := by decide +kernel
theorem dX11_twist_15 : decode cX11_twist 15 = .ok (.getfield 40, 3) := by decide +kernel
theorem dX11_twist_18 : decode cX11_twist 18 = .ok (.bipush 22, 2) := by decide +kernel
theorem dX11_twist_20 : decode cX11_twist 20 = .ok (.iload_n 1, 1) := by decide +kernel
theorem dX11_twist_21 : decode cX11_twist 21 = .ok (.iadd, 1) := by decide +kernel
theorem dX11_twist_22 : decode cX11_twist 22 = .ok (.iconst 1, 1) := by decide +kernel
theorem dX11_twist_23 : decode cX11_twist 23 = .ok (.aload_n 0, 1) := by decide +kernel
theorem dX11_twist_24 : decode cX11_twist 24 = .ok (.getfield 40, 3) := by decide +kernel
theorem dX11_twist_27 : decode cX11_twist 27 = .ok (.bipush 22, 2) := by decide +kernel
theorem dX11_twist_29 : decode cX11_twist 29 = .ok (.iload_n 1, 1) := by decide +kernel
theorem dX11_twist_30 : decode cX11_twist 30 = .ok (.iadd, 1) := by decide +kernel
theorem dX11_twist_31 : decode cX11_twist 31 = .ok (.iaload, 1) := by decide +kernel
theorem dX11_twist_32 : decode cX11_twist 32 = .ok (.isub, 1) := by decide +kernel
theorem dX11_twist_33 : decode cX11_twist 33 = .ok (.iastore, 1) := by decide +kernel
theorem dX11_twist_34 : decode cX11_twist 34 = .ok (.iconst 1, 1) := by decide +kernel
theorem dX11_twist_35 : decode cX11_twist 35 = .ok (.ireturn, 1) := by decide +kernel
theorem dX11_turnsOver_0 : decode cX11_turnsOver 0 = .ok (.bipush 38, 2) := by decide +kernel
theorem dX11_turnsOver_2 : decode cX11_turnsOver 2 = .ok (.bipush 10, 2) := by decide +kernel
theorem dX11_turnsOver_4 : decode cX11_turnsOver 4 = .ok (.iload_n 1, 1) := by decide +kernel
theorem dX11_turnsOver_5 : decode cX11_turnsOver 5 = .ok (.imul, 1) := by decide +kernel
theorem dX11_turnsOver_6 : decode cX11_turnsOver 6 = .ok (.iadd, 1) := by decide +kernel
theorem dX11_turnsOver_7 : decode cX11_turnsOver 7 = .ok (.istore_n 2, 1) := by decide +kernel
theorem dX11_turnsOver_8 : decode cX11_turnsOver 8 = .ok (.aload_n 0, 1) := by decide +kernel
theorem dX11_turnsOver_9 : decode cX11_turnsOver 9 = .ok (.bipush 32, 2) := by decide +kernel
theorem dX11_turnsOver_11 : decode cX11_turnsOver 11 = .ok (.iload_n 1, 1) := by decide +kernel
theorem dX11_turnsOver_12 : decode cX11_turnsOver 12 = .ok (.iadd, 1) := by decide +kernel
theorem dX11_turnsOver_13 : decode cX11_turnsOver 13 = .ok (.iaload, 1) := by decide +kernel
theorem dX11_turnsOver_14 : decode cX11_turnsOver 14 = .ok (.istore_n 3, 1) := by decide +kernel
theorem dX11_turnsOver_15 : decode cX11_turnsOver 15 = .ok (.iconst 0, 1) := by decide +kernel
theorem dX11_turnsOver_16 : decode cX11_turnsOver 16 = .ok (.istore 4, 2) := by decide +kernel
theorem dX11_turnsOver_18 : decode cX11_turnsOver 18 = .ok (.iload 4, 2) := by decide +kernel
theorem dX11_turnsOver_20 : decode cX11_turnsOver 20 = .ok (.iload_n 3, 1) := by decide +kernel
theorem dX11_turnsOver_21 : decode cX11_turnsOver 21 = .ok (.iconst 1, 1) := by decide +kernel
theorem dX11_turnsOver_22 : decode cX11_turnsOver 22 = .ok (.isub, 1) := by decide +kernel
theorem dX11_turnsOver_23 : decode cX11_turnsOver 23 = .ok (.iload 4, 2) := by decide +kernel
theorem dX11_turnsOver_25 : decode cX11_turnsOver 25 = .ok (.isub, 1) := by decide +kernel
theorem dX11_turnsOver_26 : decode cX11_turnsOver 26 = .ok (.if_icmp .ge 45, 3) := by decide +kernel
theorem dX11_turnsOver_29 : decode cX11_turnsOver 29 = .ok (.aload_n 0, 1) := by decide +kernel
theorem dX11_turnsOver_30 : decode cX11_turnsOver 30 = .ok (.iload_n 2, 1) := by decide +kernel
theorem dX11_turnsOver_31 : decode cX11_turnsOver 31 = .ok (.iload 4, 2) := by decide +kernel
theorem dX11_turnsOver_33 : decode cX11_turnsOver 33 = .ok (.iadd, 1) := by decide +kernel
theorem dX11_turnsOver_34 : decode cX11_turnsOver 34 = .ok (.iaload, 1) := by decide +kernel
theorem dX11_turnsOver_35 : decode cX11_turnsOver 35 = .ok (.istore 5, 2) := by decide +kernel
theorem dX11_turnsOver_37 : decode cX11_turnsOver 37 = .ok (.aload_n 0, 1) := by decide +kernel
theorem dX11_turnsOver_38 : decode cX11_turnsOver 38 = .ok (.iload_n 2, 1) := by decide +kernel
theorem dX11_turnsOver_39 : decode cX11_turnsOver 39 = .ok (.iload 4, 2) := by decide +kernel
theorem dX11_turnsOver_41 : decode cX11_turnsOver 41 = .ok (.iadd, 1) := by decide +kernel
theorem dX11_turnsOver_42 : decode cX11_turnsOver 42 = .ok (.aload_n 0, 1) := by decide +kernel
theorem dX11_turnsOver_43 : decode cX11_turnsOver 43 = .ok (.iload_n 2, 1) := by decide +kernel
theorem dX11_turnsOver_44 : decode cX11_turnsOver 44 = .ok (.iload_n 3, 1) := by decide +kernel
theorem dX11_turnsOver_45 : decode cX11_turnsOver 45 = .ok (.iadd, 1) := by decide +kernel
theorem dX11_turnsOver_46 : decode cX11_turnsOver 46 = .ok (.iconst 1, 1) := by decide +kernel
theorem dX11_turnsOver_47 : decode cX11_turnsOver 47 = .ok (.isub, 1) := by decide +kernel
theorem dX11_turnsOver_48 : decode cX11_turnsOver 48 = .ok (.iload 4, 2) := by decide +kernel
theorem dX11_turnsOver_50 : decode cX11_turnsOver 50 = .ok (.isub, 1) := by decide +kernel
theorem dX11_turnsOver_51 : decode cX11_turnsOver 51 = .ok (.iaload, 1) := by decide +kernel
theorem dX11_turnsOver_52 : decode cX11_turnsOver 52 = .ok (.iastore, 1) := by decide +kernel
theorem dX11_turnsOver_53 : decode cX11_turnsOver 53 = .ok (.aload_n 0, 1) := by decide +kernel
theorem dX11_turnsOver_54 : decode cX11_turnsOver 54 = .ok (.iload_n 2, 1) := by decide +kernel
theorem dX11_turnsOver_55 : decode cX11_turnsOver 55 = .ok (.iload_n 3, 1) := by decide +kernel
theorem dX11_turnsOver_56 : decode cX11_turnsOver 56 = .ok (.iadd, 1) := by decide +kernel
theorem dX11_turnsOver_57 : decode cX11_turnsOver 57 = .ok (.iconst 1, 1) := by decide +kernel
theorem dX11_turnsOver_58 : decode cX11_turnsOver 58 = .ok (.isub, 1) := by decide +kernel
theorem dX11_turnsOver_59 : decode cX11_turnsOver 59 = .ok (.iload 4, 2) := by decide +kernel
theorem dX11_turnsOver_61 : decode cX11_turnsOver 61 = .ok (.isub, 1) := by decide +kernel
theorem dX11_turnsOver_62 : decode cX11_turnsOver 62 = .ok (.iload 5, 2) := by decide +kernel
theorem dX11_turnsOver_64 : decode cX11_turnsOver 64 = .ok (.iastore, 1) := by decide +kernel
theorem dX11_turnsOver_65 : decode cX11_turnsOver 65 = .ok (.iinc 4 1, 3) := by decide +kernel
theorem dX11_turnsOver_68 : decode cX11_turnsOver 68 = .ok (.goto (-50), 3) := by decide +kernel
theorem dX11_turnsOver_71 : decode cX11_turnsOver 71 = .ok (.iconst 0, 1) := by decide +kernel
theorem dX11_turnsOver_72 : decode cX11_turnsOver 72 = .ok (.istore 4, 2) := by decide +kernel
theorem dX11_turnsOver_74 : decode cX11_turnsOver 74 = .ok (.iload 4, 2) := by decide +kernel
theorem dX11_turnsOver_76 : decode cX11_turnsOver 76 = .ok (.iload_n 3, 1) := by decide +kernel
theorem dX11_turnsOver_77 : decode cX11_turnsOver 77 = .ok (.if_icmp .ge 33, 3) := by decide +kernel
theorem dX11_turnsOver_80 : decode cX11_turnsOver 80 = .ok (.aload_n 0, 1) := by decide +kernel
theorem dX11_turnsOver_81 : decode cX11_turnsOver 81 = .ok (.bipush 22, 2) := by decide +kernel
theorem dX11_turnsOver_83 : decode cX11_turnsOver 83 = .ok (.aload_n 0, 1) := by decide +kernel
theorem dX11_turnsOver_84 : decode cX11_turnsOver 84 = .ok (.iload_n 2, 1) := by decide +kernel
theorem dX11_turnsOver_85 : decode cX11_turnsOver 85 = .ok (.iload 4, 2) := by decide +kernel
theorem dX11_turnsOver_87 : decode cX11_turnsOver 87 = .ok (.iadd, 1) := by decide +kernel
theorem dX11_turnsOver_88 : decode cX11_turnsOver 88 = .ok (.iaload, 1) := by decide +kernel
theorem dX11_turnsOver_89 : decode cX11_turnsOver 89 = .ok (.iadd, 1) := by decide +kernel
theorem dX11_turnsOver_90 : decode cX11_turnsOver 90 = .ok (.iconst 1, 1) := by decide +kernel
theorem dX11_turnsOver_91 : decode cX11_turnsOver 91 = .ok (.aload_n 0, 1) := by decide +kernel
theorem dX11_turnsOver_92 : decode cX11_turnsOver 92 = .ok (.bipush 22, 2) := by decide +kernel
theorem dX11_turnsOver_94 : decode cX11_turnsOver 94 = .ok (.aload_n 0, 1) := by decide +kernel
theorem dX11_turnsOver_95 : decode cX11_turnsOver 95 = .ok (.iload_n 2, 1) := by decide +kernel
theorem dX11_turnsOver_96 : decode cX11_turnsOver 96 = .ok (.iload 4, 2) := by decide +kernel
theorem dX11_turnsOver_98 : decode cX11_turnsOver 98 = .ok (.iadd, 1) := by decide +kernel
theorem dX11_turnsOver_99 : decode cX11_turnsOver 99 = .ok (.iaload, 1) := by decide +kernel
theorem dX11_turnsOver_100 : decode cX11_turnsOver 100 = .ok (.iadd, 1) := by decide +kernel
theorem dX11_turnsOver_101 : decode cX11_turnsOver 101 = .ok (.iaload, 1) := by decide +kernel
theorem dX11_turnsOver_102 : decode cX11_turnsOver 102 = .ok (.isub, 1) := by decide +kernel
theorem dX11_turnsOver_103 : decode cX11_turnsOver 103 = .ok (.iastore, 1) := by decide +kernel
theorem dX11_turnsOver_104 : decode cX11_turnsOver 104 = .ok (.iinc 4 1, 3) := by decide +kernel
theorem dX11_turnsOver_107 : decode cX11_turnsOver 107 = .ok (.goto (-33), 3) := by decide +kernel
theorem dX11_turnsOver_110 : decode cX11_turnsOver 110 = .ok (.return_, 1) := by decide +kernel
theorem dX11_flip_0 : decode cX11_flip 0 = .ok (.aload_n 0, 1) := by decide +kernel
theorem dX11_flip_1 : decode cX11_flip 1 = .ok (.iload_n 1, 1) := by decide +kernel
theorem dX11_flip_2 : decode cX11_flip 2 = .ok (.invokevirtual 215, 3) := by decide +kernel
theorem dX11_flip_5 : decode cX11_flip 5 = .ok (.ifCond .ne 5, 3) := by decide +kernel
theorem dX11_flip_8 : decode cX11_flip 8 = .ok (.iconst 0, 1) := by decide +kernel
theorem dX11_flip_9 : decode cX11_flip 9 = .ok (.ireturn, 1) := by decide +kernel
theorem dX11_flip_10 : decode cX11_flip 10 = .ok (.aload_n 0, 1) := by decide +kernel
theorem dX11_flip_11 : decode cX11_flip 11 = .ok (.invokevirtual 221, 3) := by decide +kernel
theorem dX11_flip_14 : decode cX11_flip 14 = .ok (.aload_n 0, 1) := by decide +kernel
theorem dX11_flip_15 : decode cX11_flip 15 = .ok (.getfield 40, 3) := by decide +kernel
theorem dX11_flip_18 : decode cX11_flip 18 = .ok (.iload_n 1, 1) := by decide +kernel
theorem dX11_flip_19 : decode cX11_flip 19 = .ok (.invokestatic 241, 3) := by decide +kernel
theorem dX11_flip_22 : decode cX11_flip 22 = .ok (.iconst 1, 1) := by decide +kernel
theorem dX11_flip_23 : decode cX11_flip 23 = .ok (.ireturn, 1) := by decide +kernel
theorem dX11_exchange_0 : decode cX11_exchange 0 = .ok (.aload_n 0, 1) := by decide +kernel
theorem dX11_exchange_1 : decode cX11_exchange 1 = .ok (.iload_n 1, 1) := by decide +kernel
theorem dX11_exchange_2 : decode cX11_exchange 2 = .ok (.invokevirtual 215, 3) := by decide +kernel
theorem dX11_exchange_5 : decode cX11_exchange 5 = .ok (.ifCond .eq 35, 3) := by decide +kernel
theorem dX11_exchange_8 : decode cX11_exchange 8 = .ok (.aload_n 0, 1) := by decide +kernel
theorem dX11_exchange_9 : decode cX11_exchange 9 = .ok (.getfield 40, 3) := by decide +kernel
theorem dX11_exchange_12 : decode cX11_exchange 12 = .ok (.bipush 32, 2) := by decide +kernel
theorem dX11_exchange_14 : decode cX11_exchange 14 = .ok (.iload_n 1, 1) := by decide +kernel
theorem dX11_exchange_15 : decode cX11_exchange 15 = .ok (.iadd, 1) := by decide +kernel
theorem dX11_exchange_16 : decode cX11_exchange 16 = .ok (.iaload, 1) := by decide +kernel
theorem dX11_exchange_17 : decode cX11_exchange 17 = .ok (.iconst 3, 1) := by decide +kernel
theorem dX11_exchange_18 : decode cX11_exchange 18 = .ok (.if_icmp .lt 22, 3) := by decide +kernel
theorem dX11_exchange_21 : decode cX11_exchange 21 = .ok (.iload_n 2, 1) := by decide +kernel
theorem dX11_exchange_22 : decode cX11_exchange 22 = .ok (.iconst 0, 1) := by decide +kernel
theorem dX11_exchange_23 : decode cX11_exchange 23 = .ok (.aload_n 0, 1) := by decide +kernel
theorem dX11_exchange_24 : decode cX11_exchange 24 = .ok (.getfield 40, 3) := by decide +kernel
theorem dX11_exchange_27 : decode cX11_exchange 27 = .ok (.bipush 32, 2) := by decide +kernel
theorem dX11_exchange_29 : decode cX11_exchange 29 = .ok (.iload_n 1, 1) := by decide +kernel
theorem dX11_exchange_30 : decode cX11_exchange 30 = .ok (.iadd, 1) := by decide +kernel
theorem dX11_exchange_31 : decode cX11_exchange 31 = .ok (.iaload, 1) := by decide +kernel
theorem dX11_exchange_32 : decode cX11_exchange 32 = .ok (.iconst 1, 1) := by decide +kernel
theorem dX11_exchange_33 : decode cX11_exchange 33 = .ok (.isub, 1) := by decide +kernel
theorem dX11_exchange_34 : decode cX11_exchange 34 = .ok (.invokestatic 204, 3) := by decide +kernel
theorem dX11_exchange_37 : decode cX11_exchange 37 = .ok (.ifCond .ne 5, 3) := by decide +kernel
theorem dX11_exchange_40 : decode cX11_exchange 40 = .ok (.iconst 0, 1) := by decide +kernel
theorem dX11_exchange_41 : decode cX11_exchange 41 = .ok (.ireturn, 1) := by decide +kernel
theorem dX11_exchange_42 : decode cX11_exchange 42 = .ok (.aload_n 0, 1) := by decide +kernel
theorem dX11_exchange_43 : decode cX11_exchange 43 = .ok (.invokevirtual 221, 3) := by decide +kernel
theorem dX11_exchange_46 : decode cX11_exchange 46 = .ok (.bipush 38, 2) := by decide +kernel
theorem dX11_exchange_48 : decode cX11_exchange 48 = .ok (.bipush 10, 2) := by decide +kernel
theorem dX11_exchange_50 : decode cX11_exchange 50 = .ok (.iload_n 1, 1) := by decide +kernel
theorem dX11_exchange_51 : decode cX11_exchange 51 = .ok (.imul, 1) := by decide +kernel
theorem dX11_exchange_52 : decode cX11_exchange 52 = .ok (.iadd, 1) := by decide +kernel
theorem dX11_exchange_53 : decode cX11_exchange 53 = .ok (.istore_n 3, 1) := by decide +kernel
theorem dX11_exchange_54 : decode cX11_exchange 54 = .ok (.iload_n 2, 1) := by decide +kernel
theorem dX11_exchange_55 : decode cX11_exchange 55 = .ok (.iconst 1, 1) := by decide +kernel
theorem dX11_exchange_56 : decode cX11_exchange 56 = .ok (.iadd, 1) := by decide +kernel
theorem dX11_exchange_57 : decode cX11_exchange 57 = .ok (.aload_n 0, 1) := by decide +kernel
theorem dX11_exchange_58 : decode cX11_exchange 58 = .ok (.getfield 40, 3) := by decide +kernel
theorem dX11_exchange_61 : decode cX11_exchange 61 = .ok (.bipush 32, 2) := by decide +kernel
theorem dX11_exchange_63 : decode cX11_exchange 63 = .ok (.iload_n 1, 1) := by decide +kernel
theorem dX11_exchange_64 : decode cX11_exchange 64 = .ok (.iadd, 1) := by decide +kernel
theorem dX11_exchange_65 : decode cX11_exchange 65 = .ok (.iaload, 1) := by decide +kernel
theorem dX11_exchange_66 : decode cX11_exchange 66 = .ok (.irem, 1) := by decide +kernel
theorem dX11_exchange_67 : decode cX11_exchange 67 = .ok (.istore 4, 2) := by decide +kernel
theorem dX11_exchange_69 : decode cX11_exchange 69 = .ok (.aload_n 0, 1) := by decide +kernel
theorem dX11_exchange_70 : decode cX11_exchange 70 = .ok (.getfield 40, 3) := by decide +kernel
theorem dX11_exchange_73 : decode cX11_exchange 73 = .ok (.iload_n 3, 1) := by decide +kernel
theorem dX11_exchange_74 : decode cX11_exchange 74 = .ok (.iload_n 2, 1) := by decide +kernel
theorem dX11_exchange_75 : decode cX11_exchange 75 = .ok (.iadd, 1) := by decide +kernel
theorem dX11_exchange_76 : decode cX11_exchange 76 = .ok (.iaload, 1) := by decide +kernel
theorem dX11_exchange_77 : decode cX11_exchange 77 = .ok (.istore 5, 2) := by decide +kernel
theorem dX11_exchange_79 : decode cX11_exchange 79 = .ok (.aload_n 0, 1) := by decide +kernel
theorem dX11_exchange_80 : decode cX11_exchange 80 = .ok (.getfield 40, 3) := by decide +kernel
theorem dX11_exchange_83 : decode cX11_exchange 83 = .ok (.iload_n 3, 1) := by decide +kernel
theorem dX11_exchange_84 : decode cX11_exchange 84 = .ok (.iload_n 2, 1) := by decide +kernel
theorem dX11_exchange_85 : decode cX11_exchange 85 = .ok (.iadd, 1) := by decide +kernel
theorem dX11_exchange_86 : decode cX11_exchange 86 = .ok (.aload_n 0, 1) := by decide +kernel
theorem dX11_exchange_87 : decode cX11_exchange 87 = .ok (.getfield 40, 3) := by decide +kernel
theorem dX11_exchange_90 : decode cX11_exchange 90 = .ok (.iload_n 3, 1) := by decide +kernel
theorem dX11_exchange_91 : decode cX11_exchange 91 = .ok (.iload 4, 2) := by decide +kernel
theorem dX11_exchange_93 : decode cX11_exchange 93 = .ok (.iadd, 1) := by decide +kernel
theorem dX11_exchange_94 : decode cX11_exchange 94 = .ok (.iaload, 1) := by decide +kernel
theorem dX11_exchange_95 : decode cX11_exchange 95 = .ok (.iastore, 1) := by decide +kernel
theorem dX11_exchange_96 : decode cX11_exchange 96 = .ok (.aload_n 0, 1) := by decide +kernel
theorem dX11_exchange_97 : decode cX11_exchange 97 = .ok (.getfield 40, 3) := by decide +kernel
theorem dX11_exchange_100 : decode cX11_exchange 100 = .ok (.iload_n 3, 1) := by decide +kernel
theorem dX11_exchange_101 : decode cX11_exchange 101 = .ok (.iload 4, 2) := by decide +kernel
theorem dX11_exchange_103 : decode cX11_exchange 103 = .ok (.iadd, 1) := by decide +kernel
theorem dX11_exchange_104 : decode cX11_exchange 104 = .ok (.iload 5, 2) := by decide +kernel
theorem dX11_exchange_106 : decode cX11_exchange 106 = .ok (.iastore, 1) := by decide +kernel
theorem dX11_exchange_107 : decode cX11_exchange 107 = .ok (.iconst 1, 1) := by decide +kernel
theorem dX11_exchange_108 : decode cX11_exchange 108 = .ok (.ireturn, 1) := by decide +kernel
theorem dX11_isLone_0 : decode cX11_isLone 0 = .ok (.aload_n 0, 1) := by decide +kernel
theorem dX11_isLone_1 : decode cX11_isLone 1 = .ok (.getfield 40, 3) := by decide +kernel
theorem dX11_isLone_4 : decode cX11_isLone 4 = .ok (.iconst 2, 1) := by decide +kernel
theorem dX11_isLone_5 : decode cX11_isLone 5 = .ok (.iconst 2, 1) := by decide +kernel
theorem dX11_isLone_6 : decode cX11_isLone 6 = .ok (.iload_n 1, 1) := by decide +kernel
theorem dX11_isLone_7 : decode cX11_isLone 7 = .ok (.imul, 1) := by decide +kernel
theorem dX11_isLone_8 : decode cX11_isLone 8 = .ok (.iadd, 1) := by decide +kernel
theorem dX11_isLone_9 : decode cX11_isLone 9 = .ok (.iaload, 1) := by decide +kernel
theorem dX11_isLone_10 : decode cX11_isLone 10 = .ok (.istore_n 2, 1) := by decide +kernel
theorem dX11_isLone_11 : decode cX11_isLone 11 = .ok (.aload_n 0, 1) := by decide +kernel
theorem dX11_isLone_12 : decode cX11_isLone 12 = .ok (.getfield 40, 3) := by decide +kernel
theorem dX11_isLone_15 : decode cX11_isLone 15 = .ok (.iconst 2, 1) := by decide +kernel
theorem dX11_isLone_16 : decode cX11_isLone 16 = .ok (.iconst 2, 1) := by decide +kernel
theorem dX11_isLone_17 : decode cX11_isLone 17 = .ok (.iload_n 1, 1) := by decide +kernel
theorem dX11_isLone_18 : decode cX11_isLone 18 = .ok (.imul, 1) := by decide +kernel
theorem dX11_isLone_19 : decode cX11_isLone 19 = .ok (.iadd, 1) := by decide +kernel
theorem dX11_isLone_20 : decode cX11_isLone 20 = .ok (.iconst 1, 1) := by decide +kernel
theorem dX11_isLone_21 : decode cX11_isLone 21 = .ok (.iadd, 1) := by decide +kernel
theorem dX11_isLone_22 : decode cX11_isLone 22 = .ok (.iaload, 1) := by decide +kernel
theorem dX11_isLone_23 : decode cX11_isLone 23 = .ok (.istore_n 3, 1) := by decide +kernel
theorem dX11_isLone_24 : decode cX11_isLone 24 = .ok (.iconst 0, 1) := by decide +kernel
theorem dX11_isLone_25 : decode cX11_isLone 25 = .ok (.istore 4, 2) := by decide +kernel
theorem dX11_isLone_27 : decode cX11_isLone 27 = .ok (.iload 4, 2) := by decide +kernel
theorem dX11_isLone_29 : decode cX11_isLone 29 = .ok (.aload_n 0, 1) := by decide +kernel
theorem dX11_isLone_30 : decode cX11_isLone 30 = .ok (.getfield 40, 3) := by decide +kernel
theorem dX11_isLone_33 : decode cX11_isLone 33 = .ok (.iconst 1, 1) := by decide +kernel
theorem dX11_isLone_34 : decode cX11_isLone 34 = .ok (.iaload, 1) := by decide +kernel
theorem dX11_isLone_35 : decode cX11_isLone 35 = .ok (.if_icmp .ge 31, 3) := by decide +kernel
theorem dX11_isLone_38 : decode cX11_isLone 38 = .ok (.iload 4, 2) := by decide +kernel
theorem dX11_isLone_40 : decode cX11_isLone 40 = .ok (.iload_n 1, 1) := by decide +kernel
theorem dX11_isLone_41 : decode cX11_isLone 41 = .ok (.if_icmp .eq 19, 3) := by decide +kernel
theorem dX11_isLone_44 : decode cX11_isLone 44 = .ok (.aload_n 0, 1) := by decide +kernel
theorem dX11_isLone_45 : decode cX11_isLone 45 = .ok (.getfield 40, 3) := by decide +kernel
theorem dX11_isLone_48 : decode cX11_isLone 48 = .ok (.iload 4, 2) := by decide +kernel
theorem dX11_isLone_50 : decode cX11_isLone 50 = .ok (.iload_n 2, 1) := by decide +kernel
theorem dX11_isLone_51 : decode cX11_isLone 51 = .ok (.invokestatic 244, 3) := by decide +kernel
theorem dX11_isLone_54 : decode cX11_isLone 54 = .ok (.iload_n 3, 1) := by decide +kernel
theorem dX11_isLone_55 : decode cX11_isLone 55 = .ok (.if_icmp .ne 5, 3) := by decide +kernel
theorem dX11_isLone_58 : decode cX11_isLone 58 = .ok (.iconst 0, 1) := by decide +kernel
theorem dX11_isLone_59 : decode cX11_isLone 59 = .ok (.ireturn, 1) := by decide +kernel
theorem dX11_isLone_60 : decode cX11_isLone 60 = .ok (.iinc 4 1, 3) := by decide +kernel
theorem dX11_isLone_63 : decode cX11_isLone 63 = .ok (.goto (-36), 3) := by decide +kernel
theorem dX11_isLone_66 : decode cX11_isLone 66 = .ok (.iconst 1, 1) := by decide +kernel
theorem dX11_isLone_67 : decode cX11_isLone 67 = .ok (.ireturn, 1) := by decide +kernel
theorem dX11_otherEnd_0 : decode cX11_otherEnd 0 = .ok (.aload_n 0, 1) := by decide +kernel
theorem dX11_otherEnd_1 : decode cX11_otherEnd 1 = .ok (.iconst 2, 1) := by decide +kernel
theorem dX11_otherEnd_2 : decode cX11_otherEnd 2 = .ok (.iconst 2, 1) := by decide +kernel
theorem dX11_otherEnd_3 : decode cX11_otherEnd 3 = .ok (.iload_n 1, 1) := by decide +kernel
theorem dX11_otherEnd_4 : decode cX11_otherEnd 4 = .ok (.imul, 1) := by decide +kernel
theorem dX11_otherEnd_5 : decode cX11_otherEnd 5 = .ok (.iadd, 1) := by decide +kernel
theorem dX11_otherEnd_6 : decode cX11_otherEnd 6 = .ok (.iaload, 1) := by decide +kernel
theorem dX11_otherEnd_7 : decode cX11_otherEnd 7 = .ok (.iload_n 2, 1) := by decide +kernel
theorem dX11_otherEnd_8 : decode cX11_otherEnd 8 = .ok (.if_icmp .ne 15, 3) := by decide +kernel
theorem dX11_otherEnd_11 : decode cX11_otherEnd 11 = .ok (.aload_n 0, 1) := by decide +kernel
theorem dX11_otherEnd_12 : decode cX11_otherEnd 12 = .ok (.iconst 2, 1) := by decide +kernel
theorem dX11_otherEnd_13 : decode cX11_otherEnd 13 = .ok (.iconst 2, 1) := by decide +kernel
theorem dX11_otherEnd_14 : decode cX11_otherEnd 14 = .ok (.iload_n 1, 1) := by decide +kernel
theorem dX11_otherEnd_15 : decode cX11_otherEnd 15 = .ok (.imul, 1) := by decide +kernel
theorem dX11_otherEnd_16 : decode cX11_otherEnd 16 = .ok (.iadd, 1) := by decide +kernel
theorem dX11_otherEnd_17 : decode cX11_otherEnd 17 = .ok (.iconst 1, 1) := by decide +kernel
theorem dX11_otherEnd_18 : decode cX11_otherEnd 18 = .ok (.iadd, 1) := by decide +kernel
theorem dX11_otherEnd_19 : decode cX11_otherEnd 19 = .ok (.iaload, 1) := by decide +kernel
theorem dX11_otherEnd_20 : decode cX11_otherEnd 20 = .ok (.goto 27, 3) := by decide +kernel
theorem dX11_otherEnd_23 : decode cX11_otherEnd 23 = .ok (.aload_n 0, 1) := by decide +kernel
theorem dX11_otherEnd_24 : decode cX11_otherEnd 24 = .ok (.iconst 2, 1) := by decide +kernel
theorem dX11_otherEnd_25 : decode cX11_otherEnd 25 = .ok (.iconst 2, 1) := by decide +kernel
theorem dX11_otherEnd_26 : decode cX11_otherEnd 26 = .ok (.iload_n 1, 1) := by decide +kernel
theorem dX11_otherEnd_27 : decode cX11_otherEnd 27 = .ok (.imul, 1) := by decide +kernel
theorem dX11_otherEnd_28 : decode cX11_otherEnd 28 = .ok (.iadd, 1) := by decide +kernel
theorem dX11_otherEnd_29 : decode cX11_otherEnd 29 = .ok (.iconst 1, 1) := by decide +kernel
theorem dX11_otherEnd_30 : decode cX11_otherEnd 30 = .ok (.iadd, 1) := by decide +kernel
theorem dX11_otherEnd_31 : decode cX11_otherEnd 31 = .ok (.iaload, 1) := by decide +kernel
theorem dX11_otherEnd_32 : decode cX11_otherEnd 32 = .ok (.iload_n 2, 1) := by decide +kernel
theorem dX11_otherEnd_33 : decode cX11_otherEnd 33 = .ok (.if_icmp .ne 13, 3) := by decide +kernel
theorem dX11_otherEnd_36 : decode cX11_otherEnd 36 = .ok (.aload_n 0, 1) := by decide +kernel
theorem dX11_otherEnd_37 : decode cX11_otherEnd 37 = .ok (.iconst 2, 1) := by decide +kernel
theorem dX11_otherEnd_38 : decode cX11_otherEnd 38 = .ok (.iconst 2, 1) := by decide +kernel
theorem dX11_otherEnd_39 : decode cX11_otherEnd 39 = .ok (.iload_n 1, 1) := by decide +kernel
theorem dX11_otherEnd_40 : decode cX11_otherEnd 40 = .ok (.imul, 1) := by decide +kernel
theorem dX11_otherEnd_41 : decode cX11_otherEnd 41 = .ok (.iadd, 1) := by decide +kernel
theorem dX11_otherEnd_42 : decode cX11_otherEnd 42 = .ok (.iaload, 1) := by decide +kernel
theorem dX11_otherEnd_43 : decode cX11_otherEnd 43 = .ok (.goto 4, 3) := by decide +kernel
theorem dX11_otherEnd_46 : decode cX11_otherEnd 46 = .ok (.iconst (-1), 1) := by decide +kernel
theorem dX11_otherEnd_47 : decode cX11_otherEnd 47 = .ok (.ireturn, 1) := by decide +kernel
theorem dX11_shrink_0 : decode cX11_shrink 0 = .ok (.aload_n 0, 1) := by decide +kernel
theorem dX11_shrink_1 : decode cX11_shrink 1 = .ok (.iload_n 1, 1) := by decide +kernel
theorem dX11_shrink_2 : decode cX11_shrink 2 = .ok (.invokevirtual 235, 3) := by decide +kernel
theorem dX11_shrink_5 : decode cX11_shrink 5 = .ok (.ifCond .eq 11, 3) := by decide +kernel
theorem dX11_shrink_8 : decode cX11_shrink 8 = .ok (.aload_n 0, 1) := by decide +kernel
theorem dX11_shrink_9 : decode cX11_shrink 9 = .ok (.iload_n 1, 1) := by decide +kernel
theorem dX11_shrink_10 : decode cX11_shrink 10 = .ok (.invokevirtual 247, 3) := by decide +kernel
theorem dX11_shrink_13 : decode cX11_shrink 13 = .ok (.ifCond .ne 5, 3) := by decide +kernel
theorem dX11_shrink_16 : decode cX11_shrink 16 = .ok (.iconst 0, 1) := by decide +kernel
theorem dX11_shrink_17 : decode cX11_shrink 17 = .ok (.ireturn, 1) := by decide +kernel
theorem dX11_shrink_18 : decode cX11_shrink 18 = .ok (.aload_n 0, 1) := by decide +kernel
theorem dX11_shrink_19 : decode cX11_shrink 19 = .ok (.invokevirtual 221, 3) := by decide +kernel
theorem dX11_shrink_22 : decode cX11_shrink 22 = .ok (.aload_n 0, 1) := by decide +kernel
theorem dX11_shrink_23 : decode cX11_shrink 23 = .ok (.getfield 40, 3) := by decide +kernel
theorem dX11_shrink_26 : decode cX11_shrink 26 = .ok (.iconst 2, 1) := by decide +kernel
theorem dX11_shrink_27 : decode cX11_shrink 27 = .ok (.iconst 2, 1) := by decide +kernel
theorem dX11_shrink_28 : decode cX11_shrink 28 = .ok (.iload_n 1, 1) := by decide +kernel
theorem dX11_shrink_29 : decode cX11_shrink 29 = .ok (.imul, 1) := by decide +kernel
theorem dX11_shrink_30 : decode cX11_shrink 30 = .ok (.iadd, 1) := by decide +kernel
theorem dX11_shrink_31 : decode cX11_shrink 31 = .ok (.iaload, 1) := by decide +kernel
theorem dX11_shrink_32 : decode cX11_shrink 32 = .ok (.istore_n 2, 1) := by decide +kernel
theorem dX11_shrink_33 : decode cX11_shrink 33 = .ok (.aload_n 0, 1) := by decide +kernel
theorem dX11_shrink_34 : decode cX11_shrink 34 = .ok (.getfield 40, 3) := by decide +kernel
theorem dX11_shrink_37 : decode cX11_shrink 37 = .ok (.iconst 2, 1) := by decide +kernel
theorem dX11_shrink_38 : decode cX11_shrink 38 = .ok (.iconst 2, 1) := by decide +kernel
theorem dX11_shrink_39 : decode cX11_shrink 39 = .ok (.iload_n 1, 1) := by decide +kernel
theorem dX11_shrink_40 : decode cX11_shrink 40 = .ok (.imul, 1) := by decide +kernel
theorem dX11_shrink_41 : decode cX11_shrink 41 = .ok (.iadd, 1) := by decide +kernel
theorem dX11_shrink_42 : decode cX11_shrink 42 = .ok (.iconst 1, 1) := by decide +kernel
theorem dX11_shrink_43 : decode cX11_shrink 43 = .ok (.iadd, 1) := by decide +kernel
theorem dX11_shrink_44 : decode cX11_shrink 44 = .ok (.iaload, 1) := by decide +kernel
theorem dX11_shrink_45 : decode cX11_shrink 45 = .ok (.istore_n 3, 1) := by decide +kernel
theorem dX11_shrink_46 : decode cX11_shrink 46 = .ok (.aload_n 0, 1) := by decide +kernel
theorem dX11_shrink_47 : decode cX11_shrink 47 = .ok (.getfield 40, 3) := by decide +kernel
theorem dX11_shrink_50 : decode cX11_shrink 50 = .ok (.bipush 22, 2) := by decide +kernel
theorem dX11_shrink_52 : decode cX11_shrink 52 = .ok (.iload_n 1, 1) := by decide +kernel
theorem dX11_shrink_53 : decode cX11_shrink 53 = .ok (.iadd, 1) := by decide +kernel
theorem dX11_shrink_54 : decode cX11_shrink 54 = .ok (.iaload, 1) := by decide +kernel
theorem dX11_shrink_55 : decode cX11_shrink 55 = .ok (.iconst 1, 1) := by decide +kernel
theorem dX11_shrink_56 : decode cX11_shrink 56 = .ok (.if_icmp .ne 11, 3) := by decide +kernel
theorem dX11_shrink_59 : decode cX11_shrink 59 = .ok (.aload_n 0, 1) := by decide +kernel
theorem dX11_shrink_60 : decode cX11_shrink 60 = .ok (.getfield 40, 3) := by decide +kernel
theorem dX11_shrink_63 : decode cX11_shrink 63 = .ok (.iload_n 3, 1) := by decide +kernel
theorem dX11_shrink_64 : decode cX11_shrink 64 = .ok (.invokestatic 241, 3) := by decide +kernel
theorem dX11_shrink_67 : decode cX11_shrink 67 = .ok (.aload_n 0, 1) := by decide +kernel
theorem dX11_shrink_68 : decode cX11_shrink 68 = .ok (.getfield 40, 3) := by decide +kernel
theorem dX11_shrink_71 : decode cX11_shrink 71 = .ok (.bipush 32, 2) := by decide +kernel
theorem dX11_shrink_73 : decode cX11_shrink 73 = .ok (.iload_n 3, 1) := by decide +kernel
theorem dX11_shrink_74 : decode cX11_shrink 74 = .ok (.iadd, 1) := by decide +kernel
theorem dX11_shrink_75 : decode cX11_shrink 75 = .ok (.iaload, 1) := by decide +kernel
theorem dX11_shrink_76 : decode cX11_shrink 76 = .ok (.istore 4, 2) := by decide +kernel
theorem dX11_shrink_78 : decode cX11_shrink 78 = .ok (.aload_n 0, 1) := by decide +kernel
theorem dX11_shrink_79 : decode cX11_shrink 79 = .ok (.getfield 40, 3) := by decide +kernel
theorem dX11_shrink_82 : decode cX11_shrink 82 = .ok (.iload_n 2, 1) := by decide +kernel
theorem dX11_shrink_83 : decode cX11_shrink 83 = .ok (.iload_n 1, 1) := by decide +kernel
theorem dX11_shrink_84 : decode cX11_shrink 84 = .ok (.invokestatic 211, 3) := by decide +kernel
theorem dX11_shrink_87 : decode cX11_shrink 87 = .ok (.istore 5, 2) := by decide +kernel
theorem dX11_shrink_89 : decode cX11_shrink 89 = .ok (.aload_n 0, 1) := by decide +kernel
theorem dX11_shrink_90 : decode cX11_shrink 90 = .ok (.getfield 40, 3) := by decide +kernel
theorem dX11_shrink_93 : decode cX11_shrink 93 = .ok (.iload_n 3, 1) := by decide +kernel
theorem dX11_shrink_94 : decode cX11_shrink 94 = .ok (.iload_n 1, 1) := by decide +kernel
theorem dX11_shrink_95 : decode cX11_shrink 95 = .ok (.invokestatic 211, 3) := by decide +kernel
theorem dX11_shrink_98 : decode cX11_shrink 98 = .ok (.istore 6, 2) := by decide +kernel
theorem dX11_shrink_100 : decode cX11_shrink 100 = .ok (.iconst 1, 1) := by decide +kernel
theorem dX11_shrink_101 : decode cX11_shrink 101 = .ok (.istore 7, 2) := by decide +kernel
theorem dX11_shrink_103 : decode cX11_shrink 103 = .ok (.iload 7, 2) := by decide +kernel
theorem dX11_shrink_105 : decode cX11_shrink 105 = .ok (.iload 4, 2) := by decide +kernel
theorem dX11_shrink_107 : decode cX11_shrink 107 = .ok (.if_icmp .ge 91, 3) := by decide +kernel
theorem dX11_shrink_110 : decode cX11_shrink 110 = .ok (.aload_n 0, 1) := by decide +kernel
theorem dX11_shrink_111 : decode cX11_shrink 111 = .ok (.getfield 40, 3) := by decide +kernel
theorem dX11_shrink_114 : decode cX11_shrink 114 = .ok (.bipush 38, 2) := by decide +kernel
theorem dX11_shrink_116 : decode cX11_shrink 116 = .ok (.bipush 10, 2) := by decide +kernel
theorem dX11_shrink_118 : decode cX11_shrink 118 = .ok (.iload_n 3, 1) := by decide +kernel
theorem dX11_shrink_119 : decode cX11_shrink 119 = .ok (.imul, 1) := by decide +kernel
theorem dX11_shrink_120 : decode cX11_shrink 120 = .ok (.iadd, 1) := by decide +kernel
theorem dX11_shrink_121 : decode cX11_shrink 121 = .ok (.iload 6, 2) := by decide +kernel
theorem dX11_shrink_123 : decode cX11_shrink 123 = .ok (.iload 7, 2) := by decide +kernel
theorem dX11_shrink_125 : decode cX11_shrink 125 = .ok (.iadd, 1) := by decide +kernel
theorem dX11_shrink_126 : decode cX11_shrink 126 = .ok (.iload 4, 2) := by decide +kernel
theorem dX11_shrink_128 : decode cX11_shrink 128 = .ok (.irem, 1) := by decide +kernel
theorem dX11_shrink_129 : decode cX11_shrink 129 = .ok (.iadd, 1) := by decide +kernel
theorem dX11_shrink_130 : decode cX11_shrink 130 = .ok (.iaload, 1) := by decide +kernel
theorem dX11_shrink_131 : decode cX11_shrink 131 = .ok (.istore 8, 2) := by decide +kernel
theorem dX11_shrink_133 : decode cX11_shrink 133 = .ok (.aload_n 0, 1) := by decide +kernel
theorem dX11_shrink_134 : decode cX11_shrink 134 = .ok (.getfield 40, 3) := by decide +kernel
theorem dX11_shrink_137 : decode cX11_shrink 137 = .ok (.iload_n 2, 1) := by decide +kernel
theorem dX11_shrink_138 : decode cX11_shrink 138 = .ok (.iload 5, 2) := by decide +kernel
theorem dX11_shrink_140 : decode cX11_shrink 140 = .ok (.iload 7, 2) := by decide +kernel
theorem dX11_shrink_142 : decode cX11_shrink 142 = .ok (.iadd, 1) := by decide +kernel
theorem dX11_shrink_143 : decode cX11_shrink 143 = .ok (.iload 8, 2) := by decide +kernel
theorem dX11_shrink_145 : decode cX11_shrink 145 = .ok (.invokestatic 224, 3) := by decide +kernel
theorem dX11_shrink_148 : decode cX11_shrink 148 = .ok (.aload_n 0, 1) := by decide +kernel
theorem dX11_shrink_149 : decode cX11_shrink 149 = .ok (.getfield 40, 3) := by decide +kernel
theorem dX11_shrink_152 : decode cX11_shrink 152 = .ok (.iconst 2, 1) := by decide +kernel
theorem dX11_shrink_153 : decode cX11_shrink 153 = .ok (.iconst 2, 1) := by decide +kernel
theorem dX11_shrink_154 : decode cX11_shrink 154 = .ok (.iload 8, 2) := by decide +kernel
theorem dX11_shrink_156 : decode cX11_shrink 156 = .ok (.imul, 1) := by decide +kernel
theorem dX11_shrink_157 : decode cX11_shrink 157 = .ok (.iadd, 1) := by decide +kernel
theorem dX11_shrink_158 : decode cX11_shrink 158 = .ok (.iaload, 1) := by decide +kernel
theorem dX11_shrink_159 : decode cX11_shrink 159 = .ok (.iload_n 3, 1) := by decide +kernel
theorem dX11_shrink_160 : decode cX11_shrink 160 = .ok (.if_icmp .ne 18, 3) := by decide +kernel
theorem dX11_shrink_163 : decode cX11_shrink 163 = .ok (.aload_n 0, 1) := by decide +kernel
theorem dX11_shrink_164 : decode cX11_shrink 164 = .ok (.getfield 40, 3) := by decide +kernel
theorem dX11_shrink_167 : decode cX11_shrink 167 = .ok (.iconst 2, 1) := by decide +kernel
theorem dX11_shrink_168 : decode cX11_shrink 168 = .ok (.iconst 2, 1) := by decide +kernel
theorem dX11_shrink_169 : decode cX11_shrink 169 = .ok (.iload 8, 2) := by decide +kernel
theorem dX11_shrink_171 : decode cX11_shrink 171 = .ok (.imul, 1) := by decide +kernel
theorem dX11_shrink_172 : decode cX11_shrink 172 = .ok (.iadd, 1) := by decide +kernel
theorem dX11_shrink_173 : decode cX11_shrink 173 = .ok (.iload_n 2, 1) := by decide +kernel
theorem dX11_shrink_174 : decode cX11_shrink 174 = .ok (.iastore, 1) := by decide +kernel
theorem dX11_shrink_175 : decode cX11_shrink 175 = .ok (.goto 17, 3) := by decide +kernel
theorem dX11_shrink_178 : decode cX11_shrink 178 = .ok (.aload_n 0, 1) := by decide +kernel
theorem dX11_shrink_179 : decode cX11_shrink 179 = .ok (.getfield 40, 3) := by decide +kernel
theorem dX11_shrink_182 : decode cX11_shrink 182 = .ok (.iconst 2, 1) := by decide +kernel
theorem dX11_shrink_183 : decode cX11_shrink 183 = .ok (.iconst 2, 1) := by decide +kernel
theorem dX11_shrink_184 : decode cX11_shrink 184 = .ok (.iload 8, 2) := by decide +kernel
theorem dX11_shrink_186 : decode cX11_shrink 186 = .ok (.imul, 1) := by decide +kernel
theorem dX11_shrink_187 : decode cX11_shrink 187 = .ok (.iadd, 1) := by decide +kernel
theorem dX11_shrink_188 : decode cX11_shrink 188 = .ok (.iconst 1, 1) := by decide +kernel
theorem dX11_shrink_189 : decode cX11_shrink 189 = .ok (.iadd, 1) := by decide +kernel
theorem dX11_shrink_190 : decode cX11_shrink 190 = .ok (.iload_n 2, 1) := by decide +kernel
theorem dX11_shrink_191 : decode cX11_shrink 191 = .ok (.iastore, 1) := by decide +kernel
theorem dX11_shrink_192 : decode cX11_shrink 192 = .ok (.iinc 7 1, 3) := by decide +kernel
theorem dX11_shrink_195 : decode cX11_shrink 195 = .ok (.goto (-92), 3) := by decide +kernel
theorem dX11_shrink_198 : decode cX11_shrink 198 = .ok (.aload_n 0, 1) := by decide +kernel
theorem dX11_shrink_199 : decode cX11_shrink 199 = .ok (.getfield 40, 3) := by decide +kernel
theorem dX11_shrink_202 : decode cX11_shrink 202 = .ok (.iload_n 2, 1) := by decide +kernel
theorem dX11_shrink_203 : decode cX11_shrink 203 = .ok (.iload_n 1, 1) := by decide +kernel
theorem dX11_shrink_204 : decode cX11_shrink 204 = .ok (.invokestatic 228, 3) := by decide +kernel
theorem dX11_shrink_207 : decode cX11_shrink 207 = .ok (.aload_n 0, 1) := by decide +kernel
theorem dX11_shrink_208 : decode cX11_shrink 208 = .ok (.getfield 40, 3) := by decide +kernel
theorem dX11_shrink_211 : decode cX11_shrink 211 = .ok (.bipush 32, 2) := by decide +kernel
theorem dX11_shrink_213 : decode cX11_shrink 213 = .ok (.iload_n 3, 1) := by decide +kernel
theorem dX11_shrink_214 : decode cX11_shrink 214 = .ok (.iadd, 1) := by decide +kernel
theorem dX11_shrink_215 : decode cX11_shrink 215 = .ok (.iconst 0, 1) := by decide +kernel
theorem dX11_shrink_216 : decode cX11_shrink 216 = .ok (.iastore, 1) := by decide +kernel
theorem dX11_shrink_217 : decode cX11_shrink 217 = .ok (.aload_n 0, 1) := by decide +kernel
theorem dX11_shrink_218 : decode cX11_shrink 218 = .ok (.getfield 40, 3) := by decide +kernel
theorem dX11_shrink_221 : decode cX11_shrink 221 = .ok (.iload_n 1, 1) := by decide +kernel
theorem dX11_shrink_222 : decode cX11_shrink 222 = .ok (.invokestatic 231, 3) := by decide +kernel
theorem dX11_shrink_225 : decode cX11_shrink 225 = .ok (.iload_n 3, 1) := by decide +kernel
theorem dX11_shrink_226 : decode cX11_shrink 226 = .ok (.istore 7, 2) := by decide +kernel
theorem dX11_shrink_228 : decode cX11_shrink 228 = .ok (.iload 7, 2) := by decide +kernel
theorem dX11_shrink_230 : decode cX11_shrink 230 = .ok (.iconst 1, 1) := by decide +kernel
theorem dX11_shrink_231 : decode cX11_shrink 231 = .ok (.iadd, 1) := by decide +kernel
theorem dX11_shrink_232 : decode cX11_shrink 232 = .ok (.aload_n 0, 1) := by decide +kernel
theorem dX11_shrink_233 : decode cX11_shrink 233 = .ok (.getfield 40, 3) := by decide +kernel
theorem dX11_shrink_236 : decode cX11_shrink 236 = .ok (.iconst 0, 1) := by decide +kernel
theorem dX11_shrink_237 : decode cX11_shrink 237 = .ok (.iaload, 1) := by decide +kernel
theorem dX11_shrink_238 : decode cX11_shrink 238 = .ok (.if_icmp .ge 82, 3) := by decide +kernel
theorem dX11_shrink_241 : decode cX11_shrink 241 = .ok (.aload_n 0, 1) := by decide +kernel
theorem dX11_shrink_242 : decode cX11_shrink 242 = .ok (.getfield 40, 3) := by decide +kernel
theorem dX11_shrink_245 : decode cX11_shrink 245 = .ok (.bipush 32, 2) := by decide +kernel
theorem dX11_shrink_247 : decode cX11_shrink 247 = .ok (.iload 7, 2) := by decide +kernel
theorem dX11_shrink_249 : decode cX11_shrink 249 = .ok (.iadd, 1) := by decide +kernel
theorem dX11_shrink_250 : decode cX11_shrink 250 = .ok (.aload_n 0, 1) := by decide +kernel
theorem dX11_shrink_251 : decode cX11_shrink 251 = .ok (.getfield 40, 3) := by decide +kernel
theorem dX11_shrink_254 : decode cX11_shrink 254 = .ok (.bipush 32, 2) := by decide +kernel
theorem dX11_shrink_256 : decode cX11_shrink 256 = .ok (.iload 7, 2) := by decide +kernel
theorem dX11_shrink_258 : decode cX11_shrink 258 = .ok (.iadd, 1) := by decide +kernel
theorem dX11_shrink_259 : decode cX11_shrink 259 = .ok (.iconst 1, 1) := by decide +kernel
theorem dX11_shrink_260 : decode cX11_shrink 260 = .ok (.iadd, 1) := by decide +kernel
theorem dX11_shrink_261 : decode cX11_shrink 261 = .ok (.iaload, 1) := by decide +kernel
theorem dX11_shrink_262 : decode cX11_shrink 262 = .ok (.iastore, 1) := by decide +kernel
theorem dX11_shrink_263 : decode cX11_shrink 263 = .ok (.iconst 0, 1) := by decide +kernel
theorem dX11_shrink_264 : decode cX11_shrink 264 = .ok (.istore 8, 2) := by decide +kernel
theorem dX11_shrink_266 : decode cX11_shrink 266 = .ok (.iload 8, 2) := by decide +kernel
theorem dX11_shrink_268 : decode cX11_shrink 268 = .ok (.bipush 10, 2) := by decide +kernel
theorem dX11_shrink_270 : decode cX11_shrink 270 = .ok (.if_icmp .ge 44, 3) := by decide +kernel
theorem dX11_shrink_273 : decode cX11_shrink 273 = .ok (.aload_n 0, 1) := by decide +kernel
theorem dX11_shrink_274 : decode cX11_shrink 274 = .ok (.getfield 40, 3) := by decide +kernel
theorem dX11_shrink_277 : decode cX11_shrink 277 = .ok (.bipush 38, 2) := by decide +kernel
theorem dX11_shrink_279 : decode cX11_shrink 279 = .ok (.bipush 10, 2) := by decide +kernel
theorem dX11_shrink_281 : decode cX11_shrink 281 = .ok (.iload 7, 2) := by decide +kernel
theorem dX11_shrink_283 : decode cX11_shrink 283 = .ok (.imul, 1) := by decide +kernel
theorem dX11_shrink_284 : decode cX11_shrink 284 = .ok (.iadd, 1) := by decide +kernel
theorem dX11_shrink_285 : decode cX11_shrink 285 = .ok (.iload 8, 2) := by decide +kernel
theorem dX11_shrink_287 : decode cX11_shrink 287 = .ok (.iadd, 1) := by decide +kernel
theorem dX11_shrink_288 : decode cX11_shrink 288 = .ok (.aload_n 0, 1) := by decide +kernel
theorem dX11_shrink_289 : decode cX11_shrink 289 = .ok (.getfield 40, 3) := by decide +kernel
theorem dX11_shrink_292 : decode cX11_shrink 292 = .ok (.bipush 38, 2) := by decide +kernel
theorem dX11_shrink_294 : decode cX11_shrink 294 = .ok (.bipush 10, 2) := by decide +kernel
theorem dX11_shrink_296 : decode cX11_shrink 296 = .ok (.iload 7, 2) := by decide +kernel
theorem dX11_shrink_298 : decode cX11_shrink 298 = .ok (.imul, 1) := by decide +kernel
theorem dX11_shrink_299 : decode cX11_shrink 299 = .ok (.iadd, 1) := by decide +kernel
theorem dX11_shrink_300 : decode cX11_shrink 300 = .ok (.bipush 10, 2) := by decide +kernel
theorem dX11_shrink_302 : decode cX11_shrink 302 = .ok (.iadd, 1) := by decide +kernel
theorem dX11_shrink_303 : decode cX11_shrink 303 = .ok (.iload 8, 2) := by decide +kernel
theorem dX11_shrink_305 : decode cX11_shrink 305 = .ok (.iadd, 1) := by decide +kernel
theorem dX11_shrink_306 : decode cX11_shrink 306 = .ok (.iaload, 1) := by decide +kernel
theorem dX11_shrink_307 : decode cX11_shrink 307 = .ok (.iastore, 1) := by decide +kernel
theorem dX11_shrink_308 : decode cX11_shrink 308 = .ok (.iinc 8 1, 3) := by decide +kernel
theorem dX11_shrink_311 : decode cX11_shrink 311 = .ok (.goto (-45), 3) := by decide +kernel
theorem dX11_shrink_314 : decode cX11_shrink 314 = .ok (.iinc 7 1, 3) := by decide +kernel
theorem dX11_shrink_317 : decode cX11_shrink 317 = .ok (.goto (-89), 3) := by decide +kernel
theorem dX11_shrink_320 : decode cX11_shrink 320 = .ok (.aload_n 0, 1) := by decide +kernel
theorem dX11_shrink_321 : decode cX11_shrink 321 = .ok (.getfield 40, 3) := by decide +kernel
theorem dX11_shrink_324 : decode cX11_shrink 324 = .ok (.iconst 0, 1) := by decide +kernel
theorem dX11_shrink_325 : decode cX11_shrink 325 = .ok (.dup2, 1) := by decide +kernel
theorem dX11_shrink_326 : decode cX11_shrink 326 = .ok (.iaload, 1) := by decide +kernel
theorem dX11_shrink_327 : decode cX11_shrink 327 = .ok (.iconst 1, 1) := by decide +kernel
theorem dX11_shrink_328 : decode cX11_shrink 328 = .ok (.isub, 1) := by decide +kernel
theorem dX11_shrink_329 : decode cX11_shrink 329 = .ok (.iastore, 1) := by decide +kernel
theorem dX11_shrink_330 : decode cX11_shrink 330 = .ok (.aload_n 0, 1) := by decide +kernel
theorem dX11_shrink_331 : decode cX11_shrink 331 = .ok (.getfield 40, 3) := by decide +kernel
theorem dX11_shrink_334 : decode cX11_shrink 334 = .ok (.bipush 32, 2) := by decide +kernel
theorem dX11_shrink_336 : decode cX11_shrink 336 = .ok (.aload_n 0, 1) := by decide +kernel
theorem dX11_shrink_337 : decode cX11_shrink 337 = .ok (.getfield 40, 3) := by decide +kernel
theorem dX11_shrink_340 : decode cX11_shrink 340 = .ok (.iconst 0, 1) := by decide +kernel
theorem dX11_shrink_341 : decode cX11_shrink 341 = .ok (.iaload, 1) := by decide +kernel
theorem dX11_shrink_342 : decode cX11_shrink 342 = .ok (.iadd, 1) := by decide +kernel
theorem dX11_shrink_343 : decode cX11_shrink 343 = .ok (.iconst 0, 1) := by decide +kernel
theorem dX11_shrink_344 : decode cX11_shrink 344 = .ok (.iastore, 1) := by decide +kernel
theorem dX11_shrink_345 : decode cX11_shrink 345 = .ok (.iconst 2, 1) := by decide +kernel
theorem dX11_shrink_346 : decode cX11_shrink 346 = .ok (.istore 7, 2) := by decide +kernel
theorem dX11_shrink_348 : decode cX11_shrink 348 = .ok (.iload 7, 2) := by decide +kernel
theorem dX11_shrink_350 : decode cX11_shrink 350 = .ok (.iconst 2, 1) := by decide +kernel
theorem dX11_shrink_351 : decode cX11_shrink 351 = .ok (.iconst 2, 1) := by decide +kernel
theorem dX11_shrink_352 : decode cX11_shrink 352 = .ok (.aload_n 0, 1) := by decide +kernel
theorem dX11_shrink_353 : decode cX11_shrink 353 = .ok (.getfield 40, 3) := by decide +kernel
theorem dX11_shrink_356 : decode cX11_shrink 356 = .ok (.iconst 1, 1) := by decide +kernel
theorem dX11_shrink_357 : decode cX11_shrink 357 = .ok (.iaload, 1) := by decide +kernel
theorem dX11_shrink_358 : decode cX11_shrink 358 = .ok (.imul, 1) := by decide +kernel
theorem dX11_shrink_359 : decode cX11_shrink 359 = .ok (.iadd, 1) := by decide +kernel
theorem dX11_shrink_360 : decode cX11_shrink 360 = .ok (.if_icmp .ge 31, 3) := by decide +kernel
theorem dX11_shrink_363 : decode cX11_shrink 363 = .ok (.aload_n 0, 1) := by decide +kernel
theorem dX11_shrink_364 : decode cX11_shrink 364 = .ok (.getfield 40, 3) := by decide +kernel
theorem dX11_shrink_367 : decode cX11_shrink 367 = .ok (.iload 7, 2) := by decide +kernel
theorem dX11_shrink_369 : decode cX11_shrink 369 = .ok (.iaload, 1) := by decide +kernel
theorem dX11_shrink_370 : decode cX11_shrink 370 = .ok (.iload_n 3, 1) := by decide +kernel
theorem dX11_shrink_371 : decode cX11_shrink 371 = .ok (.if_icmp .le 14, 3) := by decide +kernel
theorem dX11_shrink_374 : decode cX11_shrink 374 = .ok (.aload_n 0, 1) := by decide +kernel
theorem dX11_shrink_375 : decode cX11_shrink 375 = .ok (.getfield 40, 3) := by decide +kernel
theorem dX11_shrink_378 : decode cX11_shrink 378 = .ok (.iload 7, 2) := by decide +kernel
theorem dX11_shrink_380 : decode cX11_shrink 380 = .ok (.dup2, 1) := by decide +kernel
theorem dX11_shrink_381 : decode cX11_shrink 381 = .ok (.iaload, 1) := by decide +kernel
theorem dX11_shrink_382 : decode cX11_shrink 382 = .ok (.iconst 1, 1) := by decide +kernel
theorem dX11_shrink_383 : decode cX11_shrink 383 = .ok (.isub, 1) := by decide +kernel
theorem dX11_shrink_384 : decode cX11_shrink 384 = .ok (.iastore, 1) := by decide +kernel
theorem dX11_shrink_385 : decode cX11_shrink 385 = .ok (.iinc 7 1, 3) := by decide +kernel
theorem dX11_shrink_388 : decode cX11_shrink 388 = .ok (.goto (-40), 3) := by decide +kernel
theorem dX11_shrink_391 : decode cX11_shrink 391 = .ok (.iconst 1, 1) := by decide +kernel
theorem dX11_shrink_392 : decode cX11_shrink 392 = .ok (.ireturn, 1) := by decide +kernel
theorem dX11_mirrorOf_0 : decode cX11_mirrorOf 0 = .ok (.iload_n 1, 1) := by decide +kernel
theorem dX11_mirrorOf_1 : decode cX11_mirrorOf 1 = .ok (.bipush 20, 2) := by decide +kernel
theorem dX11_mirrorOf_3 : decode cX11_mirrorOf 3 = .ok (.irem, 1) := by decide +kernel
theorem dX11_mirrorOf_4 : decode cX11_mirrorOf 4 = .ok (.istore_n 2, 1) := by decide +kernel
theorem dX11_mirrorOf_5 : decode cX11_mirrorOf 5 = .ok (.iload_n 1, 1) := by decide +kernel
theorem dX11_mirrorOf_6 : decode cX11_mirrorOf 6 = .ok (.bipush 20, 2) := by decide +kernel
theorem dX11_mirrorOf_8 : decode cX11_mirrorOf 8 = .ok (.if_icmp .lt 7, 3) := by decide +kernel
theorem dX11_mirrorOf_11 : decode cX11_mirrorOf 11 = .ok (.iconst 1, 1) := by decide +kernel
theorem dX11_mirrorOf_12 : decode cX11_mirrorOf 12 = .ok (.goto 4, 3) := by decide +kernel
theorem dX11_mirrorOf_15 : decode cX11_mirrorOf 15 = .ok (.iconst 0, 1) := by decide +kernel
theorem dX11_mirrorOf_16 : decode cX11_mirrorOf 16 = .ok (.istore_n 3, 1) := by decide +kernel
theorem dX11_mirrorOf_17 : decode cX11_mirrorOf 17 = .ok (.iload_n 3, 1) := by decide +kernel
theorem dX11_mirrorOf_18 : decode cX11_mirrorOf 18 = .ok (.aload_n 0, 1) := by decide +kernel
theorem dX11_mirrorOf_19 : decode cX11_mirrorOf 19 = .ok (.bipush 22, 2) := by decide +kernel
theorem dX11_mirrorOf_21 : decode cX11_mirrorOf 21 = .ok (.iload_n 2, 1) := by decide +kernel
theorem dX11_mirrorOf_22 : decode cX11_mirrorOf 22 = .ok (.iconst 2, 1) := by decide +kernel
theorem dX11_mirrorOf_23 : decode cX11_mirrorOf 23 = .ok (.idiv, 1) := by decide +kernel
theorem dX11_mirrorOf_24 : decode cX11_mirrorOf 24 = .ok (.iadd, 1) := by decide +kernel
theorem dX11_mirrorOf_25 : decode cX11_mirrorOf 25 = .ok (.iaload, 1) := by decide +kernel
theorem dX11_mirrorOf_26 : decode cX11_mirrorOf 26 = .ok (.iconst 1, 1) := by decide +kernel
theorem dX11_mirrorOf_27 : decode cX11_mirrorOf 27 = .ok (.if_icmp .ne 7, 3) := by decide +kernel
theorem dX11_mirrorOf_30 : decode cX11_mirrorOf 30 = .ok (.iconst 1, 1) := by decide +kernel
theorem dX11_mirrorOf_31 : decode cX11_mirrorOf 31 = .ok (.goto 4, 3) := by decide +kernel
theorem dX11_mirrorOf_34 : decode cX11_mirrorOf 34 = .ok (.iconst 0, 1) := by decide +kernel
theorem dX11_mirrorOf_35 : decode cX11_mirrorOf 35 = .ok (.if_icmp .eq 7, 3) := by decide +kernel
theorem dX11_mirrorOf_38 : decode cX11_mirrorOf 38 = .ok (.iconst 1, 1) := by decide +kernel
theorem dX11_mirrorOf_39 : decode cX11_mirrorOf 39 = .ok (.goto 4, 3) := by decide +kernel
theorem dX11_mirrorOf_42 : decode cX11_mirrorOf 42 = .ok (.iconst 0, 1) := by decide +kernel
theorem dX11_mirrorOf_43 : decode cX11_mirrorOf 43 = .ok (.istore 4, 2) := by decide +kernel
theorem dX11_mirrorOf_45 : decode cX11_mirrorOf 45 = .ok (.iload_n 2, 1) := by decide +kernel
theorem dX11_mirrorOf_46 : decode cX11_mirrorOf 46 = .ok (.iconst 1, 1) := by decide +kernel
theorem dX11_mirrorOf_47 : decode cX11_mirrorOf 47 = .ok (.ixor, 1) := by decide +kernel
theorem dX11_mirrorOf_48 : decode cX11_mirrorOf 48 = .ok (.iload 4, 2) := by decide +kernel
theorem dX11_mirrorOf_50 : decode cX11_mirrorOf 50 = .ok (.ifCond .eq 7, 3) := by decide +kernel
theorem dX11_mirrorOf_53 : decode cX11_mirrorOf 53 = .ok (.iconst 0, 1) := by decide +kernel
theorem dX11_mirrorOf_54 : decode cX11_mirrorOf 54 = .ok (.goto 5, 3) := by decide +kernel
theorem dX11_mirrorOf_57 : decode cX11_mirrorOf 57 = .ok (.bipush 20, 2) := by decide +kernel
theorem dX11_mirrorOf_59 : decode cX11_mirrorOf 59 = .ok (.iadd, 1) := by decide +kernel
theorem dX11_mirrorOf_60 : decode cX11_mirrorOf 60 = .ok (.ireturn, 1) := by decide +kernel
theorem dX11_nextOf_0 : decode cX11_nextOf 0 = .ok (.iload_n 1, 1) := by decide +kernel
theorem dX11_nextOf_1 : decode cX11_nextOf 1 = .ok (.bipush 20, 2) := by decide +kernel
theorem dX11_nextOf_3 : decode cX11_nextOf 3 = .ok (.irem, 1) := by decide +kernel
theorem dX11_nextOf_4 : decode cX11_nextOf 4 = .ok (.istore_n 2, 1) := by decide +kernel
theorem dX11_nextOf_5 : decode cX11_nextOf 5 = .ok (.iload_n 2, 1) := by decide +kernel
theorem dX11_nextOf_6 : decode cX11_nextOf 6 = .ok (.iconst 2, 1) := by decide +kernel
theorem dX11_nextOf_7 : decode cX11_nextOf 7 = .ok (.idiv, 1) := by decide +kernel
theorem dX11_nextOf_8 : decode cX11_nextOf 8 = .ok (.istore_n 3, 1) := by decide +kernel
theorem dX11_nextOf_9 : decode cX11_nextOf 9 = .ok (.iload_n 1, 1) := by decide +kernel
theorem dX11_nextOf_10 : decode cX11_nextOf 10 = .ok (.bipush 20, 2) := by decide +kernel
theorem dX11_nextOf_12 : decode cX11_nextOf 12 = .ok (.if_icmp .lt 7, 3) := by decide +kernel
theorem dX11_nextOf_15 : decode cX11_nextOf 15 = .ok (.iconst 1, 1) := by decide +kernel
theorem dX11_nextOf_16 : decode cX11_nextOf 16 = .ok (.goto 4, 3) := by decide +kernel
theorem dX11_nextOf_19 : decode cX11_nextOf 19 = .ok (.iconst 0, 1) := by decide +kernel
theorem dX11_nextOf_20 : decode cX11_nextOf 20 = .ok (.aload_n 0, 1) := by decide +kernel
theorem dX11_nextOf_21 : decode cX11_nextOf 21 = .ok (.bipush 22, 2) := by decide +kernel
theorem dX11_nextOf_23 : decode cX11_nextOf 23 = .ok (.iload_n 3, 1) := by decide +kernel
theorem dX11_nextOf_24 : decode cX11_nextOf 24 = .ok (.iadd, 1) := by decide +kernel
theorem dX11_nextOf_25 : decode cX11_nextOf 25 = .ok (.iaload, 1) := by decide +kernel
theorem dX11_nextOf_26 : decode cX11_nextOf 26 = .ok (.iconst 1, 1) := by decide +kernel
theorem dX11_nextOf_27 : decode cX11_nextOf 27 = .ok (.if_icmp .ne 7, 3) := by decide +kernel
theorem dX11_nextOf_30 : decode cX11_nextOf 30 = .ok (.iconst 1, 1) := by decide +kernel
theorem dX11_nextOf_31 : decode cX11_nextOf 31 = .ok (.goto 4, 3) := by decide +kernel
theorem dX11_nextOf_34 : decode cX11_nextOf 34 = .ok (.iconst 0, 1) := by decide +kernel
theorem dX11_nextOf_35 : decode cX11_nextOf 35 = .ok (.if_icmp .eq 7, 3) := by decide +kernel
theorem dX11_nextOf_38 : decode cX11_nextOf 38 = .ok (.iconst 1, 1) := by decide +kernel
theorem dX11_nextOf_39 : decode cX11_nextOf 39 = .ok (.goto 4, 3) := by decide +kernel
theorem dX11_nextOf_42 : decode cX11_nextOf 42 = .ok (.iconst 0, 1) := by decide +kernel
theorem dX11_nextOf_43 : decode cX11_nextOf 43 = .ok (.istore 4, 2) := by decide +kernel
theorem dX11_nextOf_45 : decode cX11_nextOf 45 = .ok (.aload_n 0, 1) := by decide +kernel
theorem dX11_nextOf_46 : decode cX11_nextOf 46 = .ok (.iconst 2, 1) := by decide +kernel
theorem dX11_nextOf_47 : decode cX11_nextOf 47 = .ok (.iload_n 2, 1) := by decide +kernel
theorem dX11_nextOf_48 : decode cX11_nextOf 48 = .ok (.iconst 1, 1) := by decide +kernel
theorem dX11_nextOf_49 : decode cX11_nextOf 49 = .ok (.ixor, 1) := by decide +kernel
theorem dX11_nextOf_50 : decode cX11_nextOf 50 = .ok (.iadd, 1) := by decide +kernel
theorem dX11_nextOf_51 : decode cX11_nextOf 51 = .ok (.iaload, 1) := by decide +kernel
theorem dX11_nextOf_52 : decode cX11_nextOf 52 = .ok (.istore 5, 2) := by decide +kernel
theorem dX11_nextOf_54 : decode cX11_nextOf 54 = .ok (.aload_n 0, 1) := by decide +kernel
theorem dX11_nextOf_55 : decode cX11_nextOf 55 = .ok (.bipush 32, 2) := by decide +kernel
theorem dX11_nextOf_57 : decode cX11_nextOf 57 = .ok (.iload 5, 2) := by decide +kernel
theorem dX11_nextOf_59 : decode cX11_nextOf 59 = .ok (.iadd, 1) := by decide +kernel
theorem dX11_nextOf_60 : decode cX11_nextOf 60 = .ok (.iaload, 1) := by decide +kernel
theorem dX11_nextOf_61 : decode cX11_nextOf 61 = .ok (.istore 6, 2) := by decide +kernel
theorem dX11_nextOf_63 : decode cX11_nextOf 63 = .ok (.aload_n 0, 1) := by decide +kernel
theorem dX11_nextOf_64 : decode cX11_nextOf 64 = .ok (.iload 5, 2) := by decide +kernel
theorem dX11_nextOf_66 : decode cX11_nextOf 66 = .ok (.iload_n 3, 1) := by decide +kernel
theorem dX11_nextOf_67 : decode cX11_nextOf 67 = .ok (.invokestatic 211, 3) := by decide +kernel
theorem dX11_nextOf_70 : decode cX11_nextOf 70 = .ok (.iload 4, 2) := by decide +kernel
theorem dX11_nextOf_72 : decode cX11_nextOf 72 = .ok (.ifCond .eq 10, 3) := by decide +kernel
theorem dX11_nextOf_75 : decode cX11_nextOf 75 = .ok (.iload 6, 2) := by decide +kernel
theorem dX11_nextOf_77 : decode cX11_nextOf 77 = .ok (.iconst 1, 1) := by decide +kernel
theorem dX11_nextOf_78 : decode cX11_nextOf 78 = .ok (.isub, 1) := by decide +kernel
theorem dX11_nextOf_79 : decode cX11_nextOf 79 = .ok (.goto 4, 3) := by decide +kernel
theorem dX11_nextOf_82 : decode cX11_nextOf 82 = .ok (.iconst 1, 1) := by decide +kernel
theorem dX11_nextOf_83 : decode cX11_nextOf 83 = .ok (.iadd, 1) := by decide +kernel
theorem dX11_nextOf_84 : decode cX11_nextOf 84 = .ok (.iload 6, 2) := by decide +kernel
theorem dX11_nextOf_86 : decode cX11_nextOf 86 = .ok (.irem, 1) := by decide +kernel
theorem dX11_nextOf_87 : decode cX11_nextOf 87 = .ok (.istore 7, 2) := by decide +kernel
theorem dX11_nextOf_89 : decode cX11_nextOf 89 = .ok (.aload_n 0, 1) := by decide +kernel
theorem dX11_nextOf_90 : decode cX11_nextOf 90 = .ok (.bipush 38, 2) := by decide +kernel
theorem dX11_nextOf_92 : decode cX11_nextOf 92 = .ok (.bipush 10, 2) := by decide +kernel
theorem dX11_nextOf_94 : decode cX11_nextOf 94 = .ok (.iload 5, 2) := by decide +kernel
theorem dX11_nextOf_96 : decode cX11_nextOf 96 = .ok (.imul, 1) := by decide +kernel
theorem dX11_nextOf_97 : decode cX11_nextOf 97 = .ok (.iadd, 1) := by decide +kernel
theorem dX11_nextOf_98 : decode cX11_nextOf 98 = .ok (.iload 7, 2) := by decide +kernel
theorem dX11_nextOf_100 : decode cX11_nextOf 100 = .ok (.iadd, 1) := by decide +kernel
theorem dX11_nextOf_101 : decode cX11_nextOf 101 = .ok (.iaload, 1) := by decide +kernel
theorem dX11_nextOf_102 : decode cX11_nextOf 102 = .ok (.istore 8, 2) := by decide +kernel
theorem dX11_nextOf_104 : decode cX11_nextOf 104 = .ok (.iconst 2, 1) := by decide +kernel
theorem dX11_nextOf_105 : decode cX11_nextOf 105 = .ok (.iload 8, 2) := by decide +kernel
theorem dX11_nextOf_107 : decode cX11_nextOf 107 = .ok (.imul, 1) := by decide +kernel
theorem dX11_nextOf_108 : decode cX11_nextOf 108 = .ok (.aload_n 0, 1) := by decide +kernel
theorem dX11_nextOf_109 : decode cX11_nextOf 109 = .ok (.iconst 2, 1) := by decide +kernel
theorem dX11_nextOf_110 : decode cX11_nextOf 110 = .ok (.iconst 2, 1) := by decide +kernel
theorem dX11_nextOf_111 : decode cX11_nextOf 111 = .ok (.iload 8, 2) := by decide +kernel
theorem dX11_nextOf_113 : decode cX11_nextOf 113 = .ok (.imul, 1) := by decide +kernel
theorem dX11_nextOf_114 : decode cX11_nextOf 114 = .ok (.iadd, 1) := by decide +kernel
theorem dX11_nextOf_115 : decode cX11_nextOf 115 = .ok (.iaload, 1) := by decide +kernel
theorem dX11_nextOf_116 : decode cX11_nextOf 116 = .ok (.iload 5, 2) := by decide +kernel
