theorem dX13_init_0 : decode cX13_init 0 = .ok (.aload_n 0, 1) := by decide +kernel
theorem dX13_init_1 : decode cX13_init 1 = .ok (.invokespecial 1, 3) := by decide +kernel
theorem dX13_init_4 : decode cX13_init 4 = .ok (.aload_n 0, 1) := by decide +kernel
theorem dX13_init_5 : decode cX13_init 5 = .ok (.sipush 1024, 3) := by decide +kernel
theorem dX13_init_8 : decode cX13_init 8 = .ok (.newarray .byte, 2) := by decide +kernel
theorem dX13_init_10 : decode cX13_init 10 = .ok (.putfield 9, 3) := by decide +kernel
theorem dX13_init_13 : decode cX13_init 13 = .ok (.aload_n 0, 1) := by decide +kernel
theorem dX13_init_14 : decode cX13_init 14 = .ok (.bipush 64, 2) := by decide +kernel
theorem dX13_init_16 : decode cX13_init 16 = .ok (.newarray .int, 2) := by decide +kernel
theorem dX13_init_18 : decode cX13_init 18 = .ok (.putfield 13, 3) := by decide +kernel
theorem dX13_init_21 : decode cX13_init 21 = .ok (.aload_n 0, 1) := by decide +kernel
theorem dX13_init_22 : decode cX13_init 22 = .ok (.bipush 64, 2) := by decide +kernel
theorem dX13_init_24 : decode cX13_init 24 = .ok (.newarray .int, 2) := by decide +kernel
theorem dX13_init_26 : decode cX13_init 26 = .ok (.putfield 17, 3) := by decide +kernel
theorem dX13_init_29 : decode cX13_init 29 = .ok (.aload_n 0, 1) := by decide +kernel
theorem dX13_init_30 : decode cX13_init 30 = .ok (.ldc 20, 2) := by decide +kernel
theorem dX13_init_32 : decode cX13_init 32 = .ok (.newarray .byte, 2) := by decide +kernel
theorem dX13_init_34 : decode cX13_init 34 = .ok (.putfield 21, 3) := by decide +kernel
theorem dX13_init_37 : decode cX13_init 37 = .ok (.aload_n 0, 1) := by decide +kernel
theorem dX13_init_38 : decode cX13_init 38 = .ok (.sipush 4096, 3) := by decide +kernel
theorem dX13_init_41 : decode cX13_init 41 = .ok (.putfield 24, 3) := by decide +kernel
theorem dX13_init_44 : decode cX13_init 44 = .ok (.aload_n 0, 1) := by decide +kernel
theorem dX13_init_45 : decode cX13_init 45 = .ok (.bipush 64, 2) := by decide +kernel
theorem dX13_init_47 : decode cX13_init 47 = .ok (.newarray .int, 2) := by decide +kernel
theorem dX13_init_49 : decode cX13_init 49 = .ok (.putfield 28, 3) := by decide +kernel
theorem dX13_init_52 : decode cX13_init 52 = .ok (.aload_n 0, 1) := by decide +kernel
theorem dX13_init_53 : decode cX13_init 53 = .ok (.bipush 64, 2) := by decide +kernel
theorem dX13_init_55 : decode cX13_init 55 = .ok (.newarray .int, 2) := by decide +kernel
theorem dX13_init_57 : decode cX13_init 57 = .ok (.putfield 31, 3) := by decide +kernel
theorem dX13_init_60 : decode cX13_init 60 = .ok (.aload_n 0, 1) := by decide +kernel
theorem dX13_init_61 : decode cX13_init 61 = .ok (.bipush 64, 2) := by decide +kernel
theorem dX13_init_63 : decode cX13_init 63 = .ok (.newarray .int, 2) := by decide +kernel
theorem dX13_init_65 : decode cX13_init 65 = .ok (.putfield 34, 3) := by decide +kernel
theorem dX13_init_68 : decode cX13_init 68 = .ok (.aload_n 0, 1) := by decide +kernel
theorem dX13_init_69 : decode cX13_init 69 = .ok (.bipush 64, 2) := by decide +kernel
theorem dX13_init_71 : decode cX13_init 71 = .ok (.newarray .int, 2) := by decide +kernel
theorem dX13_init_73 : decode cX13_init 73 = .ok (.putfield 37, 3) := by decide +kernel
theorem dX13_init_76 : decode cX13_init 76 = .ok (.aload_n 0, 1) := by decide +kernel
theorem dX13_init_77 : decode cX13_init 77 = .ok (.bipush 64, 2) := by decide +kernel
theorem dX13_init_79 : decode cX13_init 79 = .ok (.newarray .int, 2) := by decide +kernel
theorem dX13_init_81 : decode cX13_init 81 = .ok (.putfield 40, 3) := by decide +kernel
theorem dX13_init_84 : decode cX13_init 84 = .ok (.aload_n 0, 1) := by decide +kernel
theorem dX13_init_85 : decode cX13_init 85 = .ok (.bipush 64, 2) := by decide +kernel
theorem dX13_init_87 : decode cX13_init 87 = .ok (.newarray .int, 2) := by decide +kernel
theorem dX13_init_89 : decode cX13_init 89 = .ok (.putfield 43, 3) := by decide +kernel
theorem dX13_init_92 : decode cX13_init 92 = .ok (.aload_n 0, 1) := by decide +kernel
theorem dX13_init_93 : decode cX13_init 93 = .ok (.bipush 64, 2) := by decide +kernel
theorem dX13_init_95 : decode cX13_init 95 = .ok (.newarray .int, 2) := by decide +kernel
theorem dX13_init_97 : decode cX13_init 97 = .ok (.putfield 46, 3) := by decide +kernel
theorem dX13_init_100 : decode cX13_init 100 = .ok (.aload_n 0, 1) := by decide +kernel
theorem dX13_init_101 : decode cX13_init 101 = .ok (.sipush 128, 3) := by decide +kernel
theorem dX13_init_104 : decode cX13_init 104 = .ok (.newarray .int, 2) := by decide +kernel
theorem dX13_init_106 : decode cX13_init 106 = .ok (.putfield 49, 3) := by decide +kernel
theorem dX13_init_109 : decode cX13_init 109 = .ok (.aload_n 0, 1) := by decide +kernel
theorem dX13_init_110 : decode cX13_init 110 = .ok (.bipush 64, 2) := by decide +kernel
theorem dX13_init_112 : decode cX13_init 112 = .ok (.newarray .int, 2) := by decide +kernel
theorem dX13_init_114 : decode cX13_init 114 = .ok (.putfield 52, 3) := by decide +kernel
theorem dX13_init_117 : decode cX13_init 117 = .ok (.aload_n 0, 1) := by decide +kernel
theorem dX13_init_118 : decode cX13_init 118 = .ok (.bipush 64, 2) := by decide +kernel
theorem dX13_init_120 : decode cX13_init 120 = .ok (.newarray .int, 2) := by decide +kernel
theorem dX13_init_122 : decode cX13_init 122 = .ok (.putfield 55, 3) := by decide +kernel
theorem dX13_init_125 : decode cX13_init 125 = .ok (.aload_n 0, 1) := by decide +kernel
theorem dX13_init_126 : decode cX13_init 126 = .ok (.ldc 20, 2) := by decide +kernel
theorem dX13_init_128 : decode cX13_init 128 = .ok (.newarray .byte, 2) := by decide +kernel
theorem dX13_init_130 : decode cX13_init 130 = .ok (.putfield 58, 3) := by decide +kernel
theorem dX13_init_133 : decode cX13_init 133 = .ok (.aload_n 0, 1) := by decide +kernel
theorem dX13_init_134 : decode cX13_init 134 = .ok (.ldc 61, 2) := by decide +kernel
theorem dX13_init_136 : decode cX13_init 136 = .ok (.newarray .byte, 2) := by decide +kernel
theorem dX13_init_138 : decode cX13_init 138 = .ok (.putfield 62, 3) := by decide +kernel
theorem dX13_init_141 : decode cX13_init 141 = .ok (.aload_n 0, 1) := by decide +kernel
theorem dX13_init_142 : decode cX13_init 142 = .ok (.sipush 4096, 3) := by decide +kernel
theorem dX13_init_145 : decode cX13_init 145 = .ok (.newarray .byte, 2) := by decide +kernel
theorem dX13_init_147 : decode cX13_init 147 = .ok (.putfield 65, 3) := by decide +kernel
theorem dX13_init_150 : decode cX13_init 150 = .ok (.aload_n 0, 1) := by decide +kernel
theorem dX13_init_151 : decode cX13_init 151 = .ok (.sipush 4096, 3) := by decide +kernel
theorem dX13_init_154 : decode cX13_init 154 = .ok (.newarray .byte, 2) := by decide +kernel
theorem dX13_init_156 : decode cX13_init 156 = .ok (.putfield 68, 3) := by decide +kernel
theorem dX13_init_159 : decode cX13_init 159 = .ok (.aload_n 0, 1) := by decide +kernel
theorem dX13_init_160 : decode cX13_init 160 = .ok (.ldc 20, 2) := by decide +kernel
theorem dX13_init_162 : decode cX13_init 162 = .ok (.newarray .byte, 2) := by decide +kernel
theorem dX13_init_164 : decode cX13_init 164 = .ok (.putfield 71, 3) := by decide +kernel
theorem dX13_init_167 : decode cX13_init 167 = .ok (.aload_n 0, 1) := by decide +kernel
theorem dX13_init_168 : decode cX13_init 168 = .ok (.ldc 74, 2) := by decide +kernel
theorem dX13_init_170 : decode cX13_init 170 = .ok (.newarray .byte, 2) := by decide +kernel
theorem dX13_init_172 : decode cX13_init 172 = .ok (.putfield 75, 3) := by decide +kernel
theorem dX13_init_175 : decode cX13_init 175 = .ok (.aload_n 0, 1) := by decide +kernel
theorem dX13_init_176 : decode cX13_init 176 = .ok (.ldc 20, 2) := by decide +kernel
theorem dX13_init_178 : decode cX13_init 178 = .ok (.newarray .int, 2) := by decide +kernel
theorem dX13_init_180 : decode cX13_init 180 = .ok (.putfield 78, 3) := by decide +kernel
theorem dX13_init_183 : decode cX13_init 183 = .ok (.aload_n 0, 1) := by decide +kernel
theorem dX13_init_184 : decode cX13_init 184 = .ok (.ldc 20, 2) := by decide +kernel
theorem dX13_init_186 : decode cX13_init 186 = .ok (.newarray .int, 2) := by decide +kernel
theorem dX13_init_188 : decode cX13_init 188 = .ok (.putfield 81, 3) := by decide +kernel
theorem dX13_init_191 : decode cX13_init 191 = .ok (.aload_n 0, 1) := by decide +kernel
theorem dX13_init_192 : decode cX13_init 192 = .ok (.sipush 4096, 3) := by decide +kernel
theorem dX13_init_195 : decode cX13_init 195 = .ok (.newarray .int, 2) := by decide +kernel
theorem dX13_init_197 : decode cX13_init 197 = .ok (.putfield 84, 3) := by decide +kernel
theorem dX13_init_200 : decode cX13_init 200 = .ok (.aload_n 0, 1) := by decide +kernel
theorem dX13_init_201 : decode cX13_init 201 = .ok (.sipush 4096, 3) := by decide +kernel
theorem dX13_init_204 : decode cX13_init 204 = .ok (.newarray .int, 2) := by decide +kernel
theorem dX13_init_206 : decode cX13_init 206 = .ok (.putfield 87, 3) := by decide +kernel
theorem dX13_init_209 : decode cX13_init 209 = .ok (.aload_n 0, 1) := by decide +kernel
theorem dX13_init_210 : decode cX13_init 210 = .ok (.sipush 339, 3) := by decide +kernel
theorem dX13_init_213 : decode cX13_init 213 = .ok (.newarray .int, 2) := by decide +kernel
theorem dX13_init_215 : decode cX13_init 215 = .ok (.putfield 90, 3) := by decide +kernel
theorem dX13_init_218 : decode cX13_init 218 = .ok (.aload_n 0, 1) := by decide +kernel
theorem dX13_init_219 : decode cX13_init 219 = .ok (.sipush 339, 3) := by decide +kernel
theorem dX13_init_222 : decode cX13_init 222 = .ok (.newarray .int, 2) := by decide +kernel
theorem dX13_init_224 : decode cX13_init 224 = .ok (.putfield 93, 3) := by decide +kernel
theorem dX13_init_227 : decode cX13_init 227 = .ok (.aload_n 0, 1) := by decide +kernel
theorem dX13_init_228 : decode cX13_init 228 = .ok (.sipush 339, 3) := by decide +kernel
theorem dX13_init_231 : decode cX13_init 231 = .ok (.newarray .int, 2) := by decide +kernel
theorem dX13_init_233 : decode cX13_init 233 = .ok (.putfield 96, 3) := by decide +kernel
theorem dX13_init_236 : decode cX13_init 236 = .ok (.aload_n 0, 1) := by decide +kernel
theorem dX13_init_237 : decode cX13_init 237 = .ok (.sipush 288, 3) := by decide +kernel
theorem dX13_init_240 : decode cX13_init 240 = .ok (.newarray .int, 2) := by decide +kernel
theorem dX13_init_242 : decode cX13_init 242 = .ok (.putfield 99, 3) := by decide +kernel
theorem dX13_init_245 : decode cX13_init 245 = .ok (.aload_n 0, 1) := by decide +kernel
theorem dX13_init_246 : decode cX13_init 246 = .ok (.sipush 600, 3) := by decide +kernel
theorem dX13_init_249 : decode cX13_init 249 = .ok (.newarray .int, 2) := by decide +kernel
theorem dX13_init_251 : decode cX13_init 251 = .ok (.putfield 102, 3) := by decide +kernel
theorem dX13_init_254 : decode cX13_init 254 = .ok (.aload_n 0, 1) := by decide +kernel
theorem dX13_init_255 : decode cX13_init 255 = .ok (.sipush 600, 3) := by decide +kernel
theorem dX13_init_258 : decode cX13_init 258 = .ok (.newarray .int, 2) := by decide +kernel
theorem dX13_init_260 : decode cX13_init 260 = .ok (.putfield 105, 3) := by decide +kernel
theorem dX13_init_263 : decode cX13_init 263 = .ok (.aload_n 0, 1) := by decide +kernel
theorem dX13_init_264 : decode cX13_init 264 = .ok (.sipush 9000, 3) := by decide +kernel
theorem dX13_init_267 : decode cX13_init 267 = .ok (.newarray .int, 2) := by decide +kernel
theorem dX13_init_269 : decode cX13_init 269 = .ok (.putfield 108, 3) := by decide +kernel
theorem dX13_init_272 : decode cX13_init 272 = .ok (.aload_n 0, 1) := by decide +kernel
theorem dX13_init_273 : decode cX13_init 273 = .ok (.sipush 320, 3) := by decide +kernel
theorem dX13_init_276 : decode cX13_init 276 = .ok (.newarray .int, 2) := by decide +kernel
theorem dX13_init_278 : decode cX13_init 278 = .ok (.putfield 111, 3) := by decide +kernel
theorem dX13_init_281 : decode cX13_init 281 = .ok (.aload_n 0, 1) := by decide +kernel
theorem dX13_init_282 : decode cX13_init 282 = .ok (.sipush 320, 3) := by decide +kernel
theorem dX13_init_285 : decode cX13_init 285 = .ok (.newarray .int, 2) := by decide +kernel
theorem dX13_init_287 : decode cX13_init 287 = .ok (.putfield 114, 3) := by decide +kernel
theorem dX13_init_290 : decode cX13_init 290 = .ok (.aload_n 0, 1) := by decide +kernel
theorem dX13_init_291 : decode cX13_init 291 = .ok (.sipush 320, 3) := by decide +kernel
theorem dX13_init_294 : decode cX13_init 294 = .ok (.newarray .int, 2) := by decide +kernel
theorem dX13_init_296 : decode cX13_init 296 = .ok (.putfield 117, 3) := by decide +kernel
theorem dX13_init_299 : decode cX13_init 299 = .ok (.aload_n 0, 1) := by decide +kernel
theorem dX13_init_300 : decode cX13_init 300 = .ok (.sipush 339, 3) := by decide +kernel
theorem dX13_init_303 : decode cX13_init 303 = .ok (.newarray .int, 2) := by decide +kernel
theorem dX13_init_305 : decode cX13_init 305 = .ok (.putfield 120, 3) := by decide +kernel
theorem dX13_init_308 : decode cX13_init 308 = .ok (.aload_n 0, 1) := by decide +kernel
theorem dX13_init_309 : decode cX13_init 309 = .ok (.new 123, 3) := by decide +kernel
theorem dX13_init_312 : decode cX13_init 312 = .ok (.dup, 1) := by decide +kernel
theorem dX13_init_313 : decode cX13_init 313 = .ok (.invokespecial 125, 3) := by decide +kernel
theorem dX13_init_316 : decode cX13_init 316 = .ok (.putfield 126, 3) := by decide +kernel
theorem dX13_init_319 : decode cX13_init 319 = .ok (.aload_n 0, 1) := by decide +kernel
theorem dX13_init_320 : decode cX13_init 320 = .ok (.new 123, 3) := by decide +kernel
theorem dX13_init_323 : decode cX13_init 323 = .ok (.dup, 1) := by decide +kernel
theorem dX13_init_324 : decode cX13_init 324 = .ok (.invokespecial 125, 3) := by decide +kernel
theorem dX13_init_327 : decode cX13_init 327 = .ok (.putfield 130, 3) := by decide +kernel
theorem dX13_init_330 : decode cX13_init 330 = .ok (.aload_n 0, 1) := by decide +kernel
theorem dX13_init_331 : decode cX13_init 331 = .ok (.new 123, 3) := by decide +kernel
theorem dX13_init_334 : decode cX13_init 334 = .ok (.dup, 1) := by decide +kernel
theorem dX13_init_335 : decode cX13_init 335 = .ok (.invokespecial 125, 3) := by decide +kernel
theorem dX13_init_338 : decode cX13_init 338 = .ok (.putfield 133, 3) := by decide +kernel
theorem dX13_init_341 : decode cX13_init 341 = .ok (.aload_n 0, 1) := by decide +kernel
theorem dX13_init_342 : decode cX13_init 342 = .ok (.sipush 339, 3) := by decide +kernel
theorem dX13_init_345 : decode cX13_init 345 = .ok (.newarray .int, 2) := by decide +kernel
theorem dX13_init_347 : decode cX13_init 347 = .ok (.putfield 136, 3) := by decide +kernel
theorem dX13_init_350 : decode cX13_init 350 = .ok (.iconst 0, 1) := by decide +kernel
theorem dX13_init_351 : decode cX13_init 351 = .ok (.istore_n 1, 1) := by decide +kernel
theorem dX13_init_352 : decode cX13_init 352 = .ok (.iload_n 1, 1) := by decide +kernel
theorem dX13_init_353 : decode cX13_init 353 = .ok (.bipush 64, 2) := by decide +kernel
theorem dX13_init_355 : decode cX13_init 355 = .ok (.if_icmp .ge 17, 3) := by decide +kernel
theorem dX13_init_358 : decode cX13_init 358 = .ok (.aload_n 0, 1) := by decide +kernel
theorem dX13_init_359 : decode cX13_init 359 = .ok (.getfield 40, 3) := by decide +kernel
theorem dX13_init_362 : decode cX13_init 362 = .ok (.iload_n 1, 1) := by decide +kernel
theorem dX13_init_363 : decode cX13_init 363 = .ok (.bipush (-2), 2) := by decide +kernel
theorem dX13_init_365 : decode cX13_init 365 = .ok (.iastore, 1) := by decide +kernel
theorem dX13_init_366 : decode cX13_init 366 = .ok (.iinc 1 1, 3) := by decide +kernel
theorem dX13_init_369 : decode cX13_init 369 = .ok (.goto (-17), 3) := by decide +kernel
theorem dX13_init_372 : decode cX13_init 372 = .ok (.return_, 1) := by decide +kernel
theorem dX13_isFile_0 : decode cX13_isFile 0 = .ok (.iload_n 0, 1) := by decide +kernel
theorem dX13_isFile_1 : decode cX13_isFile 1 = .ok (.ifCond .lt 13, 3) := by decide +kernel
theorem dX13_isFile_4 : decode cX13_isFile 4 = .ok (.iload_n 0, 1) := by decide +kernel
theorem dX13_isFile_5 : decode cX13_isFile 5 = .ok (.bipush 64, 2) := by decide +kernel
theorem dX13_isFile_7 : decode cX13_isFile 7 = .ok (.if_icmp .ge 7, 3) := by decide +kernel
theorem dX13_isFile_10 : decode cX13_isFile 10 = .ok (.iconst 1, 1) := by decide +kernel
theorem dX13_isFile_11 : decode cX13_isFile 11 = .ok (.goto 4, 3) := by decide +kernel
theorem dX13_isFile_14 : decode cX13_isFile 14 = .ok (.iconst 0, 1) := by decide +kernel
theorem dX13_isFile_15 : decode cX13_isFile 15 = .ok (.ireturn, 1) := by decide +kernel
theorem dX13_feed_0 : decode cX13_feed 0 = .ok (.iload_n 3, 1) := by decide +kernel
theorem dX13_feed_1 : decode cX13_feed 1 = .ok (.iconst 1, 1) := by decide +kernel
theorem dX13_feed_2 : decode cX13_feed 2 = .ok (.if_icmp .lt 9, 3) := by decide +kernel
theorem dX13_feed_5 : decode cX13_feed 5 = .ok (.iload_n 3, 1) := by decide +kernel
theorem dX13_feed_6 : decode cX13_feed 6 = .ok (.bipush 8, 2) := by decide +kernel
theorem dX13_feed_8 : decode cX13_feed 8 = .ok (.if_icmp .le 5, 3) := by decide +kernel
theorem dX13_feed_11 : decode cX13_feed 11 = .ok (.iconst (-1), 1) := by decide +kernel
theorem dX13_feed_12 : decode cX13_feed 12 = .ok (.ireturn, 1) := by decide +kernel
theorem dX13_feed_13 : decode cX13_feed 13 = .ok (.aload_n 0, 1) := by decide +kernel
theorem dX13_feed_14 : decode cX13_feed 14 = .ok (.getfield 139, 3) := by decide +kernel
theorem dX13_feed_17 : decode cX13_feed 17 = .ok (.iload_n 3, 1) := by decide +kernel
theorem dX13_feed_18 : decode cX13_feed 18 = .ok (.iadd, 1) := by decide +kernel
theorem dX13_feed_19 : decode cX13_feed 19 = .ok (.sipush 1024, 3) := by decide +kernel
theorem dX13_feed_22 : decode cX13_feed 22 = .ok (.if_icmp .le 6, 3) := by decide +kernel
theorem dX13_feed_25 : decode cX13_feed 25 = .ok (.bipush (-3), 2) := by decide +kernel
theorem dX13_feed_27 : decode cX13_feed 27 = .ok (.ireturn, 1) := by decide +kernel
theorem dX13_feed_28 : decode cX13_feed 28 = .ok (.iconst 0, 1) := by decide +kernel
theorem dX13_feed_29 : decode cX13_feed 29 = .ok (.istore 4, 2) := by decide +kernel
theorem dX13_feed_31 : decode cX13_feed 31 = .ok (.iload 4, 2) := by decide +kernel
theorem dX13_feed_33 : decode cX13_feed 33 = .ok (.iload_n 3, 1) := by decide +kernel
theorem dX13_feed_34 : decode cX13_feed 34 = .ok (.if_icmp .ge 37, 3) := by decide +kernel
theorem dX13_feed_37 : decode cX13_feed 37 = .ok (.aload_n 0, 1) := by decide +kernel
theorem dX13_feed_38 : decode cX13_feed 38 = .ok (.getfield 9, 3) := by decide +kernel
theorem dX13_feed_41 : decode cX13_feed 41 = .ok (.aload_n 0, 1) := by decide +kernel
theorem dX13_feed_42 : decode cX13_feed 42 = .ok (.getfield 139, 3) := by decide +kernel
theorem dX13_feed_45 : decode cX13_feed 45 = .ok (.lload_n 1, 1) := by decide +kernel
theorem dX13_feed_46 : decode cX13_feed 46 = .ok (.bipush 8, 2) := by decide +kernel
theorem dX13_feed_48 : decode cX13_feed 48 = .ok (.iload 4, 2) := by decide +kernel
theorem dX13_feed_50 : decode cX13_feed 50 = .ok (.imul, 1) := by decide +kernel
theorem dX13_feed_51 : decode cX13_feed 51 = .ok (.lshr, 1) := by decide +kernel
theorem dX13_feed_52 : decode cX13_feed 52 = .ok (.l2i, 1) := by decide +kernel
theorem dX13_feed_53 : decode cX13_feed 53 = .ok (.i2b, 1) := by decide +kernel
theorem dX13_feed_54 : decode cX13_feed 54 = .ok (.bastore, 1) := by decide +kernel
theorem dX13_feed_55 : decode cX13_feed 55 = .ok (.aload_n 0, 1) := by decide +kernel
theorem dX13_feed_56 : decode cX13_feed 56 = .ok (.dup, 1) := by decide +kernel
theorem dX13_feed_57 : decode cX13_feed 57 = .ok (.getfield 139, 3) := by decide +kernel
theorem dX13_feed_60 : decode cX13_feed 60 = .ok (.iconst 1, 1) := by decide +kernel
theorem dX13_feed_61 : decode cX13_feed 61 = .ok (.iadd, 1) := by decide +kernel
theorem dX13_feed_62 : decode cX13_feed 62 = .ok (.putfield 139, 3) := by decide +kernel
theorem dX13_feed_65 : decode cX13_feed 65 = .ok (.iinc 4 1, 3) := by decide +kernel
theorem dX13_feed_68 : decode cX13_feed 68 = .ok (.goto (-37), 3) := by decide +kernel
theorem dX13_feed_71 : decode cX13_feed 71 = .ok (.aload_n 0, 1) := by decide +kernel
theorem dX13_feed_72 : decode cX13_feed 72 = .ok (.getfield 139, 3) := by decide +kernel
theorem dX13_feed_75 : decode cX13_feed 75 = .ok (.ireturn, 1) := by decide +kernel
theorem dX13_extend_0 : decode cX13_extend 0 = .ok (.aload_n 0, 1) := by decide +kernel
theorem dX13_extend_1 : decode cX13_extend 1 = .ok (.getfield 13, 3) := by decide +kernel
theorem dX13_extend_4 : decode cX13_extend 4 = .ok (.iload_n 1, 1) := by decide +kernel
theorem dX13_extend_5 : decode cX13_extend 5 = .ok (.aload_n 0, 1) := by decide +kernel
theorem dX13_extend_6 : decode cX13_extend 6 = .ok (.getfield 17, 3) := by decide +kernel
theorem dX13_extend_9 : decode cX13_extend 9 = .ok (.iload_n 1, 1) := by decide +kernel
theorem dX13_extend_10 : decode cX13_extend 10 = .ok (.iaload, 1) := by decide +kernel
theorem dX13_extend_11 : decode cX13_extend 11 = .ok (.ifCond .ne 10, 3) := by decide +kernel
theorem dX13_extend_14 : decode cX13_extend 14 = .ok (.aload_n 0, 1) := by decide +kernel
theorem dX13_extend_15 : decode cX13_extend 15 = .ok (.getfield 142, 3) := by decide +kernel
theorem dX13_extend_18 : decode cX13_extend 18 = .ok (.goto 9, 3) := by decide +kernel
theorem dX13_extend_21 : decode cX13_extend 21 = .ok (.aload_n 0, 1) := by decide +kernel
theorem dX13_extend_22 : decode cX13_extend 22 = .ok (.getfield 13, 3) := by decide +kernel
theorem dX13_extend_25 : decode cX13_extend 25 = .ok (.iload_n 1, 1) := by decide +kernel
theorem dX13_extend_26 : decode cX13_extend 26 = .ok (.iaload, 1) := by decide +kernel
theorem dX13_extend_27 : decode cX13_extend 27 = .ok (.iastore, 1) := by decide +kernel
theorem dX13_extend_28 : decode cX13_extend 28 = .ok (.aload_n 0, 1) := by decide +kernel
theorem dX13_extend_29 : decode cX13_extend 29 = .ok (.getfield 13, 3) := by decide +kernel
theorem dX13_extend_32 : decode cX13_extend 32 = .ok (.iload_n 1, 1) := by decide +kernel
theorem dX13_extend_33 : decode cX13_extend 33 = .ok (.iaload, 1) := by decide +kernel
theorem dX13_extend_34 : decode cX13_extend 34 = .ok (.aload_n 0, 1) := by decide +kernel
theorem dX13_extend_35 : decode cX13_extend 35 = .ok (.getfield 17, 3) := by decide +kernel
theorem dX13_extend_38 : decode cX13_extend 38 = .ok (.iload_n 1, 1) := by decide +kernel
theorem dX13_extend_39 : decode cX13_extend 39 = .ok (.iaload, 1) := by decide +kernel
theorem dX13_extend_40 : decode cX13_extend 40 = .ok (.iadd, 1) := by decide +kernel
theorem dX13_extend_41 : decode cX13_extend 41 = .ok (.istore_n 3, 1) := by decide +kernel
theorem dX13_extend_42 : decode cX13_extend 42 = .ok (.aload_n 0, 1) := by decide +kernel
theorem dX13_extend_43 : decode cX13_extend 43 = .ok (.getfield 142, 3) := by decide +kernel
theorem dX13_extend_46 : decode cX13_extend 46 = .ok (.iconst 1, 1) := by decide +kernel
theorem dX13_extend_47 : decode cX13_extend 47 = .ok (.isub, 1) := by decide +kernel
theorem dX13_extend_48 : decode cX13_extend 48 = .ok (.istore 4, 2) := by decide +kernel
theorem dX13_extend_50 : decode cX13_extend 50 = .ok (.iload 4, 2) := by decide +kernel
theorem dX13_extend_52 : decode cX13_extend 52 = .ok (.iload_n 3, 1) := by decide +kernel
theorem dX13_extend_53 : decode cX13_extend 53 = .ok (.if_icmp .lt 25, 3) := by decide +kernel
theorem dX13_extend_56 : decode cX13_extend 56 = .ok (.aload_n 0, 1) := by decide +kernel
theorem dX13_extend_57 : decode cX13_extend 57 = .ok (.getfield 21, 3) := by decide +kernel
theorem dX13_extend_60 : decode cX13_extend 60 = .ok (.iload 4, 2) := by decide +kernel
theorem dX13_extend_62 : decode cX13_extend 62 = .ok (.iload_n 2, 1) := by decide +kernel
theorem dX13_extend_63 : decode cX13_extend 63 = .ok (.iadd, 1) := by decide +kernel
theorem dX13_extend_64 : decode cX13_extend 64 = .ok (.aload_n 0, 1) := by decide +kernel
theorem dX13_extend_65 : decode cX13_extend 65 = .ok (.getfield 21, 3) := by decide +kernel
theorem dX13_extend_68 : decode cX13_extend 68 = .ok (.iload 4, 2) := by decide +kernel
theorem dX13_extend_70 : decode cX13_extend 70 = .ok (.baload, 1) := by decide +kernel
theorem dX13_extend_71 : decode cX13_extend 71 = .ok (.bastore, 1) := by decide +kernel
theorem dX13_extend_72 : decode cX13_extend 72 = .ok (.iinc 4 (-1), 3) := by decide +kernel
theorem dX13_extend_75 : decode cX13_extend 75 = .ok (.goto (-25), 3) := by decide +kernel
theorem dX13_extend_78 : decode cX13_extend 78 = .ok (.aload_n 0, 1) := by decide +kernel
theorem dX13_extend_79 : decode cX13_extend 79 = .ok (.aload_n 0, 1) := by decide +kernel
theorem dX13_extend_80 : decode cX13_extend 80 = .ok (.getfield 142, 3) := by decide +kernel
theorem dX13_extend_83 : decode cX13_extend 83 = .ok (.iload_n 2, 1) := by decide +kernel
theorem dX13_extend_84 : decode cX13_extend 84 = .ok (.iadd, 1) := by decide +kernel
theorem dX13_extend_85 : decode cX13_extend 85 = .ok (.putfield 142, 3) := by decide +kernel
theorem dX13_extend_88 : decode cX13_extend 88 = .ok (.iconst 0, 1) := by decide +kernel
theorem dX13_extend_89 : decode cX13_extend 89 = .ok (.istore 4, 2) := by decide +kernel
theorem dX13_extend_91 : decode cX13_extend 91 = .ok (.iload 4, 2) := by decide +kernel
theorem dX13_extend_93 : decode cX13_extend 93 = .ok (.bipush 64, 2) := by decide +kernel
theorem dX13_extend_95 : decode cX13_extend 95 = .ok (.if_icmp .ge 52, 3) := by decide +kernel
theorem dX13_extend_98 : decode cX13_extend 98 = .ok (.aload_n 0, 1) := by decide +kernel
theorem dX13_extend_99 : decode cX13_extend 99 = .ok (.getfield 13, 3) := by decide +kernel
theorem dX13_extend_102 : decode cX13_extend 102 = .ok (.iload 4, 2) := by decide +kernel
theorem dX13_extend_104 : decode cX13_extend 104 = .ok (.iload 4, 2) := by decide +kernel
theorem dX13_extend_106 : decode cX13_extend 106 = .ok (.iload_n 1, 1) := by decide +kernel
theorem dX13_extend_107 : decode cX13_extend 107 = .ok (.if_icmp .eq 26, 3) := by decide +kernel
theorem dX13_extend_110 : decode cX13_extend 110 = .ok (.aload_n 0, 1) := by decide +kernel
theorem dX13_extend_111 : decode cX13_extend 111 = .ok (.getfield 13, 3) := by decide +kernel
theorem dX13_extend_114 : decode cX13_extend 114 = .ok (.iload 4, 2) := by decide +kernel
theorem dX13_extend_116 : decode cX13_extend 116 = .ok (.iaload, 1) := by decide +kernel
theorem dX13_extend_117 : decode cX13_extend 117 = .ok (.iload_n 3, 1) := by decide +kernel
theorem dX13_extend_118 : decode cX13_extend 118 = .ok (.if_icmp .lt 15, 3) := by decide +kernel
theorem dX13_extend_121 : decode cX13_extend 121 = .ok (.aload_n 0, 1) := by decide +kernel
theorem dX13_extend_122 : decode cX13_extend 122 = .ok (.getfield 13, 3) := by decide +kernel
theorem dX13_extend_125 : decode cX13_extend 125 = .ok (.iload 4, 2) := by decide +kernel
theorem dX13_extend_127 : decode cX13_extend 127 = .ok (.iaload, 1) := by decide +kernel
theorem dX13_extend_128 : decode cX13_extend 128 = .ok (.iload_n 2, 1) := by decide +kernel
theorem dX13_extend_129 : decode cX13_extend 129 = .ok (.iadd, 1) := by decide +kernel
theorem dX13_extend_130 : decode cX13_extend 130 = .ok (.goto 10, 3) := by decide +kernel
theorem dX13_extend_133 : decode cX13_extend 133 = .ok (.aload_n 0, 1) := by decide +kernel
theorem dX13_extend_134 : decode cX13_extend 134 = .ok (.getfield 13, 3) := by decide +kernel
theorem dX13_extend_137 : decode cX13_extend 137 = .ok (.iload 4, 2) := by decide +kernel
theorem dX13_extend_139 : decode cX13_extend 139 = .ok (.iaload, 1) := by decide +kernel
theorem dX13_extend_140 : decode cX13_extend 140 = .ok (.iastore, 1) := by decide +kernel
theorem dX13_extend_141 : decode cX13_extend 141 = .ok (.iinc 4 1, 3) := by decide +kernel
theorem dX13_extend_144 : decode cX13_extend 144 = .ok (.goto (-53), 3) := by decide +kernel
theorem dX13_extend_147 : decode cX13_extend 147 = .ok (.aload_n 0, 1) := by decide +kernel
theorem dX13_extend_148 : decode cX13_extend 148 = .ok (.getfield 17, 3) := by decide +kernel
theorem dX13_extend_151 : decode cX13_extend 151 = .ok (.iload_n 1, 1) := by decide +kernel
theorem dX13_extend_152 : decode cX13_extend 152 = .ok (.aload_n 0, 1) := by decide +kernel
theorem dX13_extend_153 : decode cX13_extend 153 = .ok (.getfield 17, 3) := by decide +kernel
theorem dX13_extend_156 : decode cX13_extend 156 = .ok (.iload_n 1, 1) := by decide +kernel
theorem dX13_extend_157 : decode cX13_extend 157 = .ok (.iaload, 1) := by decide +kernel
theorem dX13_extend_158 : decode cX13_extend 158 = .ok (.iload_n 2, 1) := by decide +kernel
theorem dX13_extend_159 : decode cX13_extend 159 = .ok (.iadd, 1) := by decide +kernel
theorem dX13_extend_160 : decode cX13_extend 160 = .ok (.iastore, 1) := by decide +kernel
theorem dX13_extend_161 : decode cX13_extend 161 = .ok (.iload_n 3, 1) := by decide +kernel
theorem dX13_extend_162 : decode cX13_extend 162 = .ok (.ireturn, 1) := by decide +kernel
theorem dX13_write_0 : decode cX13_write 0 = .ok (.aload_n 0, 1) := by decide +kernel
theorem dX13_write_1 : decode cX13_write 1 = .ok (.getfield 139, 3) := by decide +kernel
theorem dX13_write_4 : decode cX13_write 4 = .ok (.istore_n 3, 1) := by decide +kernel
theorem dX13_write_5 : decode cX13_write 5 = .ok (.aload_n 0, 1) := by decide +kernel
theorem dX13_write_6 : decode cX13_write 6 = .ok (.iconst 0, 1) := by decide +kernel
theorem dX13_write_7 : decode cX13_write 7 = .ok (.putfield 139, 3) := by decide +kernel
theorem dX13_write_10 : decode cX13_write 10 = .ok (.iload_n 1, 1) := by decide +kernel
theorem dX13_write_11 : decode cX13_write 11 = .ok (.invokestatic 145, 3) := by decide +kernel
theorem dX13_write_14 : decode cX13_write 14 = .ok (.ifCond .eq 14, 3) := by decide +kernel
theorem dX13_write_17 : decode cX13_write 17 = .ok (.iload_n 2, 1) := by decide +kernel
theorem dX13_write_18 : decode cX13_write 18 = .ok (.iconst 1, 1) := by decide +kernel
theorem dX13_write_19 : decode cX13_write 19 = .ok (.if_icmp .lt 9, 3) := by decide +kernel
theorem dX13_write_22 : decode cX13_write 22 = .ok (.iload_n 2, 1) := by decide +kernel
theorem dX13_write_23 : decode cX13_write 23 = .ok (.bipush 64, 2) := by decide +kernel
theorem dX13_write_25 : decode cX13_write 25 = .ok (.if_icmp .le 5, 3) := by decide +kernel
theorem dX13_write_28 : decode cX13_write 28 = .ok (.iconst (-1), 1) := by decide +kernel
theorem dX13_write_29 : decode cX13_write 29 = .ok (.ireturn, 1) := by decide +kernel
theorem dX13_write_30 : decode cX13_write 30 = .ok (.aload_n 0, 1) := by decide +kernel
theorem dX13_write_31 : decode cX13_write 31 = .ok (.getfield 142, 3) := by decide +kernel
theorem dX13_write_34 : decode cX13_write 34 = .ok (.iload_n 3, 1) := by decide +kernel
theorem dX13_write_35 : decode cX13_write 35 = .ok (.iload_n 2, 1) := by decide +kernel
theorem dX13_write_36 : decode cX13_write 36 = .ok (.imul, 1) := by decide +kernel
theorem dX13_write_37 : decode cX13_write 37 = .ok (.iadd, 1) := by decide +kernel
theorem dX13_write_38 : decode cX13_write 38 = .ok (.ldc 20, 2) := by decide +kernel
theorem dX13_write_40 : decode cX13_write 40 = .ok (.if_icmp .le 6, 3) := by decide +kernel
theorem dX13_write_43 : decode cX13_write 43 = .ok (.bipush (-3), 2) := by decide +kernel
theorem dX13_write_45 : decode cX13_write 45 = .ok (.ireturn, 1) := by decide +kernel
theorem dX13_write_46 : decode cX13_write 46 = .ok (.aload_n 0, 1) := by decide +kernel
theorem dX13_write_47 : decode cX13_write 47 = .ok (.iload_n 1, 1) := by decide +kernel
theorem dX13_write_48 : decode cX13_write 48 = .ok (.iload_n 3, 1) := by decide +kernel
theorem dX13_write_49 : decode cX13_write 49 = .ok (.iload_n 2, 1) := by decide +kernel
theorem dX13_write_50 : decode cX13_write 50 = .ok (.imul, 1) := by decide +kernel
theorem dX13_write_51 : decode cX13_write 51 = .ok (.invokevirtual 149, 3) := by decide +kernel
theorem dX13_write_54 : decode cX13_write 54 = .ok (.istore 4, 2) := by decide +kernel
theorem dX13_write_56 : decode cX13_write 56 = .ok (.iconst 0, 1) := by decide +kernel
theorem dX13_write_57 : decode cX13_write 57 = .ok (.istore 5, 2) := by decide +kernel
theorem dX13_write_59 : decode cX13_write 59 = .ok (.iload 5, 2) := by decide +kernel
theorem dX13_write_61 : decode cX13_write 61 = .ok (.iload_n 3, 1) := by decide +kernel
theorem dX13_write_62 : decode cX13_write 62 = .ok (.iload_n 2, 1) := by decide +kernel
theorem dX13_write_63 : decode cX13_write 63 = .ok (.imul, 1) := by decide +kernel
theorem dX13_write_64 : decode cX13_write 64 = .ok (.if_icmp .ge 28, 3) := by decide +kernel
theorem dX13_write_67 : decode cX13_write 67 = .ok (.aload_n 0, 1) := by decide +kernel
theorem dX13_write_68 : decode cX13_write 68 = .ok (.getfield 21, 3) := by decide +kernel
theorem dX13_write_71 : decode cX13_write 71 = .ok (.iload 4, 2) := by decide +kernel
theorem dX13_write_73 : decode cX13_write 73 = .ok (.iload 5, 2) := by decide +kernel
theorem dX13_write_75 : decode cX13_write 75 = .ok (.iadd, 1) := by decide +kernel
theorem dX13_write_76 : decode cX13_write 76 = .ok (.aload_n 0, 1) := by decide +kernel
theorem dX13_write_77 : decode cX13_write 77 = .ok (.getfield 9, 3) := by decide +kernel
theorem dX13_write_80 : decode cX13_write 80 = .ok (.iload 5, 2) := by decide +kernel
theorem dX13_write_82 : decode cX13_write 82 = .ok (.iload_n 3, 1) := by decide +kernel
theorem dX13_write_83 : decode cX13_write 83 = .ok (.irem, 1) := by decide +kernel
theorem dX13_write_84 : decode cX13_write 84 = .ok (.baload, 1) := by decide +kernel
theorem dX13_write_85 : decode cX13_write 85 = .ok (.bastore, 1) := by decide +kernel
theorem dX13_write_86 : decode cX13_write 86 = .ok (.iinc 5 1, 3) := by decide +kernel
theorem dX13_write_89 : decode cX13_write 89 = .ok (.goto (-30), 3) := by decide +kernel
theorem dX13_write_92 : decode cX13_write 92 = .ok (.aload_n 0, 1) := by decide +kernel
theorem dX13_write_93 : decode cX13_write 93 = .ok (.getfield 17, 3) := by decide +kernel
theorem dX13_write_96 : decode cX13_write 96 = .ok (.iload_n 1, 1) := by decide +kernel
theorem dX13_write_97 : decode cX13_write 97 = .ok (.iaload, 1) := by decide +kernel
theorem dX13_write_98 : decode cX13_write 98 = .ok (.ireturn, 1) := by decide +kernel
theorem dX13_fill_0 : decode cX13_fill 0 = .ok (.iload_n 1, 1) := by decide +kernel
theorem dX13_fill_1 : decode cX13_fill 1 = .ok (.invokestatic 145, 3) := by decide +kernel
theorem dX13_fill_4 : decode cX13_fill 4 = .ok (.ifCond .eq 25, 3) := by decide +kernel
theorem dX13_fill_7 : decode cX13_fill 7 = .ok (.iload_n 2, 1) := by decide +kernel
theorem dX13_fill_8 : decode cX13_fill 8 = .ok (.ifCond .lt 21, 3) := by decide +kernel
theorem dX13_fill_11 : decode cX13_fill 11 = .ok (.iload_n 2, 1) := by decide +kernel
theorem dX13_fill_12 : decode cX13_fill 12 = .ok (.iconst 1, 1) := by decide +kernel
theorem dX13_fill_13 : decode cX13_fill 13 = .ok (.if_icmp .gt 16, 3) := by decide +kernel
theorem dX13_fill_16 : decode cX13_fill 16 = .ok (.iload 4, 2) := by decide +kernel
theorem dX13_fill_18 : decode cX13_fill 18 = .ok (.iconst 1, 1) := by decide +kernel
theorem dX13_fill_19 : decode cX13_fill 19 = .ok (.if_icmp .lt 10, 3) := by decide +kernel
theorem dX13_fill_22 : decode cX13_fill 22 = .ok (.iload 4, 2) := by decide +kernel
theorem dX13_fill_24 : decode cX13_fill 24 = .ok (.ldc 20, 2) := by decide +kernel
theorem dX13_fill_26 : decode cX13_fill 26 = .ok (.if_icmp .le 5, 3) := by decide +kernel
theorem dX13_fill_29 : decode cX13_fill 29 = .ok (.iconst (-1), 1) := by decide +kernel
theorem dX13_fill_30 : decode cX13_fill 30 = .ok (.ireturn, 1) := by decide +kernel
theorem dX13_fill_31 : decode cX13_fill 31 = .ok (.aload_n 0, 1) := by decide +kernel
theorem dX13_fill_32 : decode cX13_fill 32 = .ok (.getfield 142, 3) := by decide +kernel
theorem dX13_fill_35 : decode cX13_fill 35 = .ok (.iload 4, 2) := by decide +kernel
theorem dX13_fill_37 : decode cX13_fill 37 = .ok (.iadd, 1) := by decide +kernel
theorem dX13_fill_38 : decode cX13_fill 38 = .ok (.ldc 20, 2) := by decide +kernel
theorem dX13_fill_40 : decode cX13_fill 40 = .ok (.if_icmp .le 6, 3) := by decide +kernel
theorem dX13_fill_43 : decode cX13_fill 43 = .ok (.bipush (-3), 2) := by decide +kernel
theorem dX13_fill_45 : decode cX13_fill 45 = .ok (.ireturn, 1) := by decide +kernel
theorem dX13_fill_46 : decode cX13_fill 46 = .ok (.aload_n 0, 1) := by decide +kernel
theorem dX13_fill_47 : decode cX13_fill 47 = .ok (.iload_n 1, 1) := by decide +kernel
theorem dX13_fill_48 : decode cX13_fill 48 = .ok (.iload 4, 2) := by decide +kernel
theorem dX13_fill_50 : decode cX13_fill 50 = .ok (.invokevirtual 149, 3) := by decide +kernel
theorem dX13_fill_53 : decode cX13_fill 53 = .ok (.istore 5, 2) := by decide +kernel
theorem dX13_fill_55 : decode cX13_fill 55 = .ok (.iload_n 3, 1) := by decide +kernel
theorem dX13_fill_56 : decode cX13_fill 56 = .ok (.istore 6, 2) := by decide +kernel
theorem dX13_fill_58 : decode cX13_fill 58 = .ok (.iconst 0, 1) := by decide +kernel
theorem dX13_fill_59 : decode cX13_fill 59 = .ok (.istore 7, 2) := by decide +kernel
theorem dX13_fill_61 : decode cX13_fill 61 = .ok (.iload 7, 2) := by decide +kernel
theorem dX13_fill_63 : decode cX13_fill 63 = .ok (.iload 4, 2) := by decide +kernel
theorem dX13_fill_65 : decode cX13_fill 65 = .ok (.if_icmp .ge 44, 3) := by decide +kernel
theorem dX13_fill_68 : decode cX13_fill 68 = .ok (.ldc 153, 2) := by decide +kernel
theorem dX13_fill_70 : decode cX13_fill 70 = .ok (.iload 6, 2) := by decide +kernel
theorem dX13_fill_72 : decode cX13_fill 72 = .ok (.imul, 1) := by decide +kernel
theorem dX13_fill_73 : decode cX13_fill 73 = .ok (.sipush 12345, 3) := by decide +kernel
theorem dX13_fill_76 : decode cX13_fill 76 = .ok (.iadd, 1) := by decide +kernel
theorem dX13_fill_77 : decode cX13_fill 77 = .ok (.istore 6, 2) := by decide +kernel
theorem dX13_fill_79 : decode cX13_fill 79 = .ok (.aload_n 0, 1) := by decide +kernel
theorem dX13_fill_80 : decode cX13_fill 80 = .ok (.getfield 21, 3) := by decide +kernel
theorem dX13_fill_83 : decode cX13_fill 83 = .ok (.iload 5, 2) := by decide +kernel
theorem dX13_fill_85 : decode cX13_fill 85 = .ok (.iload 7, 2) := by decide +kernel
theorem dX13_fill_87 : decode cX13_fill 87 = .ok (.iadd, 1) := by decide +kernel
theorem dX13_fill_88 : decode cX13_fill 88 = .ok (.iload_n 2, 1) := by decide +kernel
theorem dX13_fill_89 : decode cX13_fill 89 = .ok (.ifCond .ne 7, 3) := by decide +kernel
theorem dX13_fill_92 : decode cX13_fill 92 = .ok (.iload_n 3, 1) := by decide +kernel
theorem dX13_fill_93 : decode cX13_fill 93 = .ok (.goto 8, 3) := by decide +kernel
theorem dX13_fill_96 : decode cX13_fill 96 = .ok (.iload 6, 2) := by decide +kernel
theorem dX13_fill_98 : decode cX13_fill 98 = .ok (.bipush 16, 2) := by decide +kernel
theorem dX13_fill_100 : decode cX13_fill 100 = .ok (.ishr, 1) := by decide +kernel
theorem dX13_fill_101 : decode cX13_fill 101 = .ok (.i2b, 1) := by decide +kernel
theorem dX13_fill_102 : decode cX13_fill 102 = .ok (.bastore, 1) := by decide +kernel
theorem dX13_fill_103 : decode cX13_fill 103 = .ok (.iinc 7 1, 3) := by decide +kernel
theorem dX13_fill_106 : decode cX13_fill 106 = .ok (.goto (-45), 3) := by decide +kernel
theorem dX13_fill_109 : decode cX13_fill 109 = .ok (.aload_n 0, 1) := by decide +kernel
theorem dX13_fill_110 : decode cX13_fill 110 = .ok (.getfield 17, 3) := by decide +kernel
theorem dX13_fill_113 : decode cX13_fill 113 = .ok (.iload_n 1, 1) := by decide +kernel
theorem dX13_fill_114 : decode cX13_fill 114 = .ok (.iaload, 1) := by decide +kernel
theorem dX13_fill_115 : decode cX13_fill 115 = .ok (.ireturn, 1) := by decide +kernel
theorem dX13_clear_0 : decode cX13_clear 0 = .ok (.iload_n 1, 1) := by decide +kernel
theorem dX13_clear_1 : decode cX13_clear 1 = .ok (.invokestatic 145, 3) := by decide +kernel
theorem dX13_clear_4 : decode cX13_clear 4 = .ok (.ifCond .ne 5, 3) := by decide +kernel
theorem dX13_clear_7 : decode cX13_clear 7 = .ok (.iconst (-1), 1) := by decide +kernel
theorem dX13_clear_8 : decode cX13_clear 8 = .ok (.ireturn, 1) := by decide +kernel
theorem dX13_clear_9 : decode cX13_clear 9 = .ok (.aload_n 0, 1) := by decide +kernel
theorem dX13_clear_10 : decode cX13_clear 10 = .ok (.getfield 17, 3) := by decide +kernel
theorem dX13_clear_13 : decode cX13_clear 13 = .ok (.iload_n 1, 1) := by decide +kernel
theorem dX13_clear_14 : decode cX13_clear 14 = .ok (.iaload, 1) := by decide +kernel
theorem dX13_clear_15 : decode cX13_clear 15 = .ok (.istore_n 2, 1) := by decide +kernel
theorem dX13_clear_16 : decode cX13_clear 16 = .ok (.aload_n 0, 1) := by decide +kernel
theorem dX13_clear_17 : decode cX13_clear 17 = .ok (.getfield 13, 3) := by decide +kernel
theorem dX13_clear_20 : decode cX13_clear 20 = .ok (.iload_n 1, 1) := by decide +kernel
theorem dX13_clear_21 : decode cX13_clear 21 = .ok (.iaload, 1) := by decide +kernel
theorem dX13_clear_22 : decode cX13_clear 22 = .ok (.istore_n 3, 1) := by decide +kernel
theorem dX13_clear_23 : decode cX13_clear 23 = .ok (.iload_n 3, 1) := by decide +kernel
theorem dX13_clear_24 : decode cX13_clear 24 = .ok (.iload_n 2, 1) := by decide +kernel
theorem dX13_clear_25 : decode cX13_clear 25 = .ok (.iadd, 1) := by decide +kernel
theorem dX13_clear_26 : decode cX13_clear 26 = .ok (.aload_n 0, 1) := by decide +kernel
theorem dX13_clear_27 : decode cX13_clear 27 = .ok (.getfield 142, 3) := by decide +kernel
theorem dX13_clear_30 : decode cX13_clear 30 = .ok (.if_icmp .ge 23, 3) := by decide +kernel
theorem dX13_clear_33 : decode cX13_clear 33 = .ok (.aload_n 0, 1) := by decide +kernel
theorem dX13_clear_34 : decode cX13_clear 34 = .ok (.getfield 21, 3) := by decide +kernel
theorem dX13_clear_37 : decode cX13_clear 37 = .ok (.iload_n 3, 1) := by decide +kernel
theorem dX13_clear_38 : decode cX13_clear 38 = .ok (.aload_n 0, 1) := by decide +kernel
theorem dX13_clear_39 : decode cX13_clear 39 = .ok (.getfield 21, 3) := by decide +kernel
theorem dX13_clear_42 : decode cX13_clear 42 = .ok (.iload_n 3, 1) := by decide +kernel
theorem dX13_clear_43 : decode cX13_clear 43 = .ok (.iload_n 2, 1) := by decide +kernel
theorem dX13_clear_44 : decode cX13_clear 44 = .ok (.iadd, 1) := by decide +kernel
theorem dX13_clear_45 : decode cX13_clear 45 = .ok (.baload, 1) := by decide +kernel
theorem dX13_clear_46 : decode cX13_clear 46 = .ok (.bastore, 1) := by decide +kernel
theorem dX13_clear_47 : decode cX13_clear 47 = .ok (.iinc 3 1, 3) := by decide +kernel
theorem dX13_clear_50 : decode cX13_clear 50 = .ok (.goto (-27), 3) := by decide +kernel
theorem dX13_clear_53 : decode cX13_clear 53 = .ok (.aload_n 0, 1) := by decide +kernel
theorem dX13_clear_54 : decode cX13_clear 54 = .ok (.aload_n 0, 1) := by decide +kernel
theorem dX13_clear_55 : decode cX13_clear 55 = .ok (.getfield 142, 3) := by decide +kernel
theorem dX13_clear_58 : decode cX13_clear 58 = .ok (.iload_n 2, 1) := by decide +kernel
theorem dX13_clear_59 : decode cX13_clear 59 = .ok (.isub, 1) := by decide +kernel
theorem dX13_clear_60 : decode cX13_clear 60 = .ok (.putfield 142, 3) := by decide +kernel
theorem dX13_clear_63 : decode cX13_clear 63 = .ok (.iconst 0, 1) := by decide +kernel
theorem dX13_clear_64 : decode cX13_clear 64 = .ok (.istore_n 3, 1) := by decide +kernel
theorem dX13_clear_65 : decode cX13_clear 65 = .ok (.iload_n 3, 1) := by decide +kernel
theorem dX13_clear_66 : decode cX13_clear 66 = .ok (.bipush 64, 2) := by decide +kernel
theorem dX13_clear_68 : decode cX13_clear 68 = .ok (.if_icmp .ge 47, 3) := by decide +kernel
theorem dX13_clear_71 : decode cX13_clear 71 = .ok (.aload_n 0, 1) := by decide +kernel
theorem dX13_clear_72 : decode cX13_clear 72 = .ok (.getfield 13, 3) := by decide +kernel
theorem dX13_clear_75 : decode cX13_clear 75 = .ok (.iload_n 3, 1) := by decide +kernel
theorem dX13_clear_76 : decode cX13_clear 76 = .ok (.aload_n 0, 1) := by decide +kernel
theorem dX13_clear_77 : decode cX13_clear 77 = .ok (.getfield 13, 3) := by decide +kernel
theorem dX13_clear_80 : decode cX13_clear 80 = .ok (.iload_n 3, 1) := by decide +kernel
theorem dX13_clear_81 : decode cX13_clear 81 = .ok (.iaload, 1) := by decide +kernel
theorem dX13_clear_82 : decode cX13_clear 82 = .ok (.aload_n 0, 1) := by decide +kernel
theorem dX13_clear_83 : decode cX13_clear 83 = .ok (.getfield 13, 3) := by decide +kernel
theorem dX13_clear_86 : decode cX13_clear 86 = .ok (.iload_n 1, 1) := by decide +kernel
theorem dX13_clear_87 : decode cX13_clear 87 = .ok (.iaload, 1) := by decide +kernel
theorem dX13_clear_88 : decode cX13_clear 88 = .ok (.if_icmp .le 14, 3) := by decide +kernel
theorem dX13_clear_91 : decode cX13_clear 91 = .ok (.aload_n 0, 1) := by decide +kernel
theorem dX13_clear_92 : decode cX13_clear 92 = .ok (.getfield 13, 3) := by decide +kernel
theorem dX13_clear_95 : decode cX13_clear 95 = .ok (.iload_n 3, 1) := by decide +kernel
theorem dX13_clear_96 : decode cX13_clear 96 = .ok (.iaload, 1) := by decide +kernel
theorem dX13_clear_97 : decode cX13_clear 97 = .ok (.iload_n 2, 1) := by decide +kernel
theorem dX13_clear_98 : decode cX13_clear 98 = .ok (.isub, 1) := by decide +kernel
theorem dX13_clear_99 : decode cX13_clear 99 = .ok (.goto 9, 3) := by decide +kernel
theorem dX13_clear_102 : decode cX13_clear 102 = .ok (.aload_n 0, 1) := by decide +kernel
theorem dX13_clear_103 : decode cX13_clear 103 = .ok (.getfield 13, 3) := by decide +kernel
theorem dX13_clear_106 : decode cX13_clear 106 = .ok (.iload_n 3, 1) := by decide +kernel
theorem dX13_clear_107 : decode cX13_clear 107 = .ok (.iaload, 1) := by decide +kernel
theorem dX13_clear_108 : decode cX13_clear 108 = .ok (.iastore, 1) := by decide +kernel
theorem dX13_clear_109 : decode cX13_clear 109 = .ok (.iinc 3 1, 3) := by decide +kernel
theorem dX13_clear_112 : decode cX13_clear 112 = .ok (.goto (-47), 3) := by decide +kernel
theorem dX13_clear_115 : decode cX13_clear 115 = .ok (.aload_n 0, 1) := by decide +kernel
theorem dX13_clear_116 : decode cX13_clear 116 = .ok (.getfield 17, 3) := by decide +kernel
theorem dX13_clear_119 : decode cX13_clear 119 = .ok (.iload_n 1, 1) := by decide +kernel
theorem dX13_clear_120 : decode cX13_clear 120 = .ok (.iconst 0, 1) := by decide +kernel
theorem dX13_clear_121 : decode cX13_clear 121 = .ok (.iastore, 1) := by decide +kernel
theorem dX13_clear_122 : decode cX13_clear 122 = .ok (.iload_n 2, 1) := by decide +kernel
theorem dX13_clear_123 : decode cX13_clear 123 = .ok (.ireturn, 1) := by decide +kernel
theorem dX13_lengthBits_0 : decode cX13_lengthBits 0 = .ok (.iload_n 0, 1) := by decide +kernel
theorem dX13_lengthBits_1 : decode cX13_lengthBits 1 = .ok (.sipush 265, 3) := by decide +kernel
theorem dX13_lengthBits_4 : decode cX13_lengthBits 4 = .ok (.if_icmp .lt 10, 3) := by decide +kernel
theorem dX13_lengthBits_7 : decode cX13_lengthBits 7 = .ok (.iload_n 0, 1) := by decide +kernel
theorem dX13_lengthBits_8 : decode cX13_lengthBits 8 = .ok (.sipush 285, 3) := by decide +kernel
theorem dX13_lengthBits_11 : decode cX13_lengthBits 11 = .ok (.if_icmp .ne 7, 3) := by decide +kernel
theorem dX13_lengthBits_14 : decode cX13_lengthBits 14 = .ok (.iconst 0, 1) := by decide +kernel
theorem dX13_lengthBits_15 : decode cX13_lengthBits 15 = .ok (.goto 10, 3) := by decide +kernel
theorem dX13_lengthBits_18 : decode cX13_lengthBits 18 = .ok (.iload_n 0, 1) := by decide +kernel
theorem dX13_lengthBits_19 : decode cX13_lengthBits 19 = .ok (.sipush 261, 3) := by decide +kernel
theorem dX13_lengthBits_22 : decode cX13_lengthBits 22 = .ok (.isub, 1) := by decide +kernel
theorem dX13_lengthBits_23 : decode cX13_lengthBits 23 = .ok (.iconst 4, 1) := by decide +kernel
theorem dX13_lengthBits_24 : decode cX13_lengthBits 24 = .ok (.idiv, 1) := by decide +kernel
theorem dX13_lengthBits_25 : decode cX13_lengthBits 25 = .ok (.ireturn, 1) := by decide +kernel
theorem dX13_lengthBase_0 : decode cX13_lengthBase 0 = .ok (.iload_n 0, 1) := by decide +kernel
theorem dX13_lengthBase_1 : decode cX13_lengthBase 1 = .ok (.sipush 285, 3) := by decide +kernel
theorem dX13_lengthBase_4 : decode cX13_lengthBase 4 = .ok (.if_icmp .ne 9, 3) := by decide +kernel
theorem dX13_lengthBase_7 : decode cX13_lengthBase 7 = .ok (.sipush 258, 3) := by decide +kernel
theorem dX13_lengthBase_10 : decode cX13_lengthBase 10 = .ok (.goto 34, 3) := by decide +kernel
theorem dX13_lengthBase_13 : decode cX13_lengthBase 13 = .ok (.iload_n 0, 1) := by decide +kernel
theorem dX13_lengthBase_14 : decode cX13_lengthBase 14 = .ok (.sipush 265, 3) := by decide +kernel
theorem dX13_lengthBase_17 : decode cX13_lengthBase 17 = .ok (.if_icmp .ge 11, 3) := by decide +kernel
theorem dX13_lengthBase_20 : decode cX13_lengthBase 20 = .ok (.iload_n 0, 1) := by decide +kernel
theorem dX13_lengthBase_21 : decode cX13_lengthBase 21 = .ok (.sipush 254, 3) := by decide +kernel
theorem dX13_lengthBase_24 : decode cX13_lengthBase 24 = .ok (.isub, 1) := by decide +kernel
theorem dX13_lengthBase_25 : decode cX13_lengthBase 25 = .ok (.goto 19, 3) := by decide +kernel
theorem dX13_lengthBase_28 : decode cX13_lengthBase 28 = .ok (.iconst 3, 1) := by decide +kernel
theorem dX13_lengthBase_29 : decode cX13_lengthBase 29 = .ok (.iconst 4, 1) := by decide +kernel
theorem dX13_lengthBase_30 : decode cX13_lengthBase 30 = .ok (.iload_n 0, 1) := by decide +kernel
theorem dX13_lengthBase_31 : decode cX13_lengthBase 31 = .ok (.sipush 261, 3) := by decide +kernel
theorem dX13_lengthBase_34 : decode cX13_lengthBase 34 = .ok (.isub, 1) := by decide +kernel
theorem dX13_lengthBase_35 : decode cX13_lengthBase 35 = .ok (.iconst 4, 1) := by decide +kernel
theorem dX13_lengthBase_36 : decode cX13_lengthBase 36 = .ok (.irem, 1) := by decide +kernel
theorem dX13_lengthBase_37 : decode cX13_lengthBase 37 = .ok (.iadd, 1) := by decide +kernel
theorem dX13_lengthBase_38 : decode cX13_lengthBase 38 = .ok (.iload_n 0, 1) := by decide +kernel
theorem dX13_lengthBase_39 : decode cX13_lengthBase 39 = .ok (.invokestatic 154, 3) := by decide +kernel
theorem dX13_lengthBase_42 : decode cX13_lengthBase 42 = .ok (.ishl, 1) := by decide +kernel
theorem dX13_lengthBase_43 : decode cX13_lengthBase 43 = .ok (.iadd, 1) := by decide +kernel
theorem dX13_lengthBase_44 : decode cX13_lengthBase 44 = .ok (.ireturn, 1) := by decide +kernel
theorem dX13_distanceBits_0 : decode cX13_distanceBits 0 = .ok (.iload_n 0, 1) := by decide +kernel
theorem dX13_distanceBits_1 : decode cX13_distanceBits 1 = .ok (.iconst 4, 1) := by decide +kernel
theorem dX13_distanceBits_2 : decode cX13_distanceBits 2 = .ok (.if_icmp .ge 7, 3) := by decide +kernel
theorem dX13_distanceBits_5 : decode cX13_distanceBits 5 = .ok (.iconst 0, 1) := by decide +kernel
theorem dX13_distanceBits_6 : decode cX13_distanceBits 6 = .ok (.goto 8, 3) := by decide +kernel
theorem dX13_distanceBits_9 : decode cX13_distanceBits 9 = .ok (.iload_n 0, 1) := by decide +kernel
theorem dX13_distanceBits_10 : decode cX13_distanceBits 10 = .ok (.iconst 2, 1) := by decide +kernel
theorem dX13_distanceBits_11 : decode cX13_distanceBits 11 = .ok (.idiv, 1) := by decide +kernel
theorem dX13_distanceBits_12 : decode cX13_distanceBits 12 = .ok (.iconst 1, 1) := by decide +kernel
theorem dX13_distanceBits_13 : decode cX13_distanceBits 13 = .ok (.isub, 1) := by decide +kernel
theorem dX13_distanceBits_14 : decode cX13_distanceBits 14 = .ok (.ireturn, 1) := by decide +kernel
theorem dX13_distanceBase_0 : decode cX13_distanceBase 0 = .ok (.iload_n 0, 1) := by decide +kernel
theorem dX13_distanceBase_1 : decode cX13_distanceBase 1 = .ok (.iconst 4, 1) := by decide +kernel
theorem dX13_distanceBase_2 : decode cX13_distanceBase 2 = .ok (.if_icmp .ge 9, 3) := by decide +kernel
theorem dX13_distanceBase_5 : decode cX13_distanceBase 5 = .ok (.iload_n 0, 1) := by decide +kernel
theorem dX13_distanceBase_6 : decode cX13_distanceBase 6 = .ok (.iconst 1, 1) := by decide +kernel
theorem dX13_distanceBase_7 : decode cX13_distanceBase 7 = .ok (.iadd, 1) := by decide +kernel
theorem dX13_distanceBase_8 : decode cX13_distanceBase 8 = .ok (.goto 15, 3) := by decide +kernel
theorem dX13_distanceBase_11 : decode cX13_distanceBase 11 = .ok (.iconst 1, 1) := by decide +kernel
theorem dX13_distanceBase_12 : decode cX13_distanceBase 12 = .ok (.iconst 2, 1) := by decide +kernel
theorem dX13_distanceBase_13 : decode cX13_distanceBase 13 = .ok (.iload_n 0, 1) := by decide +kernel
theorem dX13_distanceBase_14 : decode cX13_distanceBase 14 = .ok (.iconst 2, 1) := by decide +kernel
theorem dX13_distanceBase_15 : decode cX13_distanceBase 15 = .ok (.irem, 1) := by decide +kernel
theorem dX13_distanceBase_16 : decode cX13_distanceBase 16 = .ok (.iadd, 1) := by decide +kernel
theorem dX13_distanceBase_17 : decode cX13_distanceBase 17 = .ok (.iload_n 0, 1) := by decide +kernel
theorem dX13_distanceBase_18 : decode cX13_distanceBase 18 = .ok (.invokestatic 158, 3) := by decide +kernel
theorem dX13_distanceBase_21 : decode cX13_distanceBase 21 = .ok (.ishl, 1) := by decide +kernel
theorem dX13_distanceBase_22 : decode cX13_distanceBase 22 = .ok (.iadd, 1) := by decide +kernel
theorem dX13_distanceBase_23 : decode cX13_distanceBase 23 = .ok (.ireturn, 1) := by decide +kernel
theorem dX13_lengthSymbol_0 : decode cX13_lengthSymbol 0 = .ok (.sipush 257, 3) := by decide +kernel
theorem dX13_lengthSymbol_3 : decode cX13_lengthSymbol 3 = .ok (.istore_n 1, 1) := by decide +kernel
theorem dX13_lengthSymbol_4 : decode cX13_lengthSymbol 4 = .ok (.iload_n 1, 1) := by decide +kernel
theorem dX13_lengthSymbol_5 : decode cX13_lengthSymbol 5 = .ok (.sipush 284, 3) := by decide +kernel
theorem dX13_lengthSymbol_8 : decode cX13_lengthSymbol 8 = .ok (.if_icmp .ge 19, 3) := by decide +kernel
theorem dX13_lengthSymbol_11 : decode cX13_lengthSymbol 11 = .ok (.iload_n 1, 1) := by decide +kernel
theorem dX13_lengthSymbol_12 : decode cX13_lengthSymbol 12 = .ok (.iconst 1, 1) := by decide +kernel
theorem dX13_lengthSymbol_13 : decode cX13_lengthSymbol 13 = .ok (.iadd, 1) := by decide +kernel
theorem dX13_lengthSymbol_14 : decode cX13_lengthSymbol 14 = .ok (.invokestatic 161, 3) := by decide +kernel
theorem dX13_lengthSymbol_17 : decode cX13_lengthSymbol 17 = .ok (.iload_n 0, 1) := by decide +kernel
theorem dX13_lengthSymbol_18 : decode cX13_lengthSymbol 18 = .ok (.if_icmp .gt 9, 3) := by decide +kernel
theorem dX13_lengthSymbol_21 : decode cX13_lengthSymbol 21 = .ok (.iinc 1 1, 3) := by decide +kernel
theorem dX13_lengthSymbol_24 : decode cX13_lengthSymbol 24 = .ok (.goto (-20), 3) := by decide +kernel
theorem dX13_lengthSymbol_27 : decode cX13_lengthSymbol 27 = .ok (.iload_n 0, 1) := by decide +kernel
theorem dX13_lengthSymbol_28 : decode cX13_lengthSymbol 28 = .ok (.sipush 258, 3) := by decide +kernel
theorem dX13_lengthSymbol_31 : decode cX13_lengthSymbol 31 = .ok (.if_icmp .ne 9, 3) := by decide +kernel
theorem dX13_lengthSymbol_34 : decode cX13_lengthSymbol 34 = .ok (.sipush 285, 3) := by decide +kernel
theorem dX13_lengthSymbol_37 : decode cX13_lengthSymbol 37 = .ok (.goto 4, 3) := by decide +kernel
theorem dX13_lengthSymbol_40 : decode cX13_lengthSymbol 40 = .ok (.iload_n 1, 1) := by decide +kernel
theorem dX13_lengthSymbol_41 : decode cX13_lengthSymbol 41 = .ok (.ireturn, 1) := by decide +kernel
theorem dX13_distanceSymbol_0 : decode cX13_distanceSymbol 0 = .ok (.iconst 0, 1) := by decide +kernel
theorem dX13_distanceSymbol_1 : decode cX13_distanceSymbol 1 = .ok (.istore_n 1, 1) := by decide +kernel
theorem dX13_distanceSymbol_2 : decode cX13_distanceSymbol 2 = .ok (.iload_n 1, 1) := by decide +kernel
theorem dX13_distanceSymbol_3 : decode cX13_distanceSymbol 3 = .ok (.bipush 29, 2) := by decide +kernel
theorem dX13_distanceSymbol_5 : decode cX13_distanceSymbol 5 = .ok (.if_icmp .ge 19, 3) := by decide +kernel
theorem dX13_distanceSymbol_8 : decode cX13_distanceSymbol 8 = .ok (.iload_n 1, 1) := by decide +kernel
theorem dX13_distanceSymbol_9 : decode cX13_distanceSymbol 9 = .ok (.iconst 1, 1) := by decide +kernel
theorem dX13_distanceSymbol_10 : decode cX13_distanceSymbol 10 = .ok (.iadd, 1) := by decide +kernel
theorem dX13_distanceSymbol_11 : decode cX13_distanceSymbol 11 = .ok (.invokestatic 164, 3) := by decide +kernel
theorem dX13_distanceSymbol_14 : decode cX13_distanceSymbol 14 = .ok (.iload_n 0, 1) := by decide +kernel
theorem dX13_distanceSymbol_15 : decode cX13_distanceSymbol 15 = .ok (.if_icmp .gt 9, 3) := by decide +kernel
theorem dX13_distanceSymbol_18 : decode cX13_distanceSymbol 18 = .ok (.iinc 1 1, 3) := by decide +kernel
theorem dX13_distanceSymbol_21 : decode cX13_distanceSymbol 21 = .ok (.goto (-19), 3) := by decide +kernel
theorem dX13_distanceSymbol_24 : decode cX13_distanceSymbol 24 = .ok (.iload_n 1, 1) := by decide +kernel
theorem dX13_distanceSymbol_25 : decode cX13_distanceSymbol 25 = .ok (.ireturn, 1) := by decide +kernel
theorem dX13_smallOrder_0 : decode cX13_smallOrder 0 = .ok (.iload_n 0, 1) := by decide +kernel
theorem dX13_smallOrder_1 : decode cX13_smallOrder 1 = .ok (.ifCond .ne 8, 3) := by decide +kernel
theorem dX13_smallOrder_4 : decode cX13_smallOrder 4 = .ok (.bipush 16, 2) := by decide +kernel
theorem dX13_smallOrder_6 : decode cX13_smallOrder 6 = .ok (.goto 53, 3) := by decide +kernel
theorem dX13_smallOrder_9 : decode cX13_smallOrder 9 = .ok (.iload_n 0, 1) := by decide +kernel
theorem dX13_smallOrder_10 : decode cX13_smallOrder 10 = .ok (.iconst 1, 1) := by decide +kernel
theorem dX13_smallOrder_11 : decode cX13_smallOrder 11 = .ok (.if_icmp .ne 8, 3) := by decide +kernel
theorem dX13_smallOrder_14 : decode cX13_smallOrder 14 = .ok (.bipush 17, 2) := by decide +kernel
theorem dX13_smallOrder_16 : decode cX13_smallOrder 16 = .ok (.goto 43, 3) := by decide +kernel
theorem dX13_smallOrder_19 : decode cX13_smallOrder 19 = .ok (.iload_n 0, 1) := by decide +kernel
theorem dX13_smallOrder_20 : decode cX13_smallOrder 20 = .ok (.iconst 2, 1) := by decide +kernel
theorem dX13_smallOrder_21 : decode cX13_smallOrder 21 = .ok (.if_icmp .ne 8, 3) := by decide +kernel
theorem dX13_smallOrder_24 : decode cX13_smallOrder 24 = .ok (.bipush 18, 2) := by decide +kernel
theorem dX13_smallOrder_26 : decode cX13_smallOrder 26 = .ok (.goto 33, 3) := by decide +kernel
theorem dX13_smallOrder_29 : decode cX13_smallOrder 29 = .ok (.iload_n 0, 1) := by decide +kernel
theorem dX13_smallOrder_30 : decode cX13_smallOrder 30 = .ok (.iconst 3, 1) := by decide +kernel
theorem dX13_smallOrder_31 : decode cX13_smallOrder 31 = .ok (.if_icmp .ne 7, 3) := by decide +kernel
theorem dX13_smallOrder_34 : decode cX13_smallOrder 34 = .ok (.iconst 0, 1) := by decide +kernel
theorem dX13_smallOrder_35 : decode cX13_smallOrder 35 = .ok (.goto 24, 3) := by decide +kernel
theorem dX13_smallOrder_38 : decode cX13_smallOrder 38 = .ok (.iload_n 0, 1) := by decide +kernel
theorem dX13_smallOrder_39 : decode cX13_smallOrder 39 = .ok (.iconst 2, 1) := by decide +kernel
theorem dX13_smallOrder_40 : decode cX13_smallOrder 40 = .ok (.irem, 1) := by decide +kernel
theorem dX13_smallOrder_41 : decode cX13_smallOrder 41 = .ok (.ifCond .ne 12, 3) := by decide +kernel
theorem dX13_smallOrder_44 : decode cX13_smallOrder 44 = .ok (.bipush 6, 2) := by decide +kernel
theorem dX13_smallOrder_46 : decode cX13_smallOrder 46 = .ok (.iload_n 0, 1) := by decide +kernel
theorem dX13_smallOrder_47 : decode cX13_smallOrder 47 = .ok (.iconst 2, 1) := by decide +kernel
theorem dX13_smallOrder_48 : decode cX13_smallOrder 48 = .ok (.idiv, 1) := by decide +kernel
theorem dX13_smallOrder_49 : decode cX13_smallOrder 49 = .ok (.iadd, 1) := by decide +kernel
theorem dX13_smallOrder_50 : decode cX13_smallOrder 50 = .ok (.goto 9, 3) := by decide +kernel
theorem dX13_smallOrder_53 : decode cX13_smallOrder 53 = .ok (.bipush 9, 2) := by decide +kernel
theorem dX13_smallOrder_55 : decode cX13_smallOrder 55 = .ok (.iload_n 0, 1) := by decide +kernel
theorem dX13_smallOrder_56 : decode cX13_smallOrder 56 = .ok (.iconst 2, 1) := by decide +kernel
theorem dX13_smallOrder_57 : decode cX13_smallOrder 57 = .ok (.idiv, 1) := by decide +kernel
theorem dX13_smallOrder_58 : decode cX13_smallOrder 58 = .ok (.isub, 1) := by decide +kernel
theorem dX13_smallOrder_59 : decode cX13_smallOrder 59 = .ok (.ireturn, 1) := by decide +kernel
theorem dX13_writeBit_0 : decode cX13_writeBit 0 = .ok (.aload_n 0, 1) := by decide +kernel
theorem dX13_writeBit_1 : decode cX13_writeBit 1 = .ok (.getfield 167, 3) := by decide +kernel
theorem dX13_writeBit_4 : decode cX13_writeBit 4 = .ok (.bipush 8, 2) := by decide +kernel
theorem dX13_writeBit_6 : decode cX13_writeBit 6 = .ok (.idiv, 1) := by decide +kernel
theorem dX13_writeBit_7 : decode cX13_writeBit 7 = .ok (.istore_n 2, 1) := by decide +kernel
theorem dX13_writeBit_8 : decode cX13_writeBit 8 = .ok (.aload_n 0, 1) := by decide +kernel
theorem dX13_writeBit_9 : decode cX13_writeBit 9 = .ok (.getfield 75, 3) := by decide +kernel
theorem dX13_writeBit_12 : decode cX13_writeBit 12 = .ok (.iload_n 2, 1) := by decide +kernel
theorem dX13_writeBit_13 : decode cX13_writeBit 13 = .ok (.aload_n 0, 1) := by decide +kernel
theorem dX13_writeBit_14 : decode cX13_writeBit 14 = .ok (.getfield 167, 3) := by decide +kernel
theorem dX13_writeBit_17 : decode cX13_writeBit 17 = .ok (.bipush 8, 2) := by decide +kernel
theorem dX13_writeBit_19 : decode cX13_writeBit 19 = .ok (.irem, 1) := by decide +kernel
theorem dX13_writeBit_20 : decode cX13_writeBit 20 = .ok (.ifCond .ne 7, 3) := by decide +kernel
theorem dX13_writeBit_23 : decode cX13_writeBit 23 = .ok (.iload_n 1, 1) := by decide +kernel
theorem dX13_writeBit_24 : decode cX13_writeBit 24 = .ok (.goto 19, 3) := by decide +kernel
theorem dX13_writeBit_27 : decode cX13_writeBit 27 = .ok (.aload_n 0, 1) := by decide +kernel
theorem dX13_writeBit_28 : decode cX13_writeBit 28 = .ok (.getfield 75, 3) := by decide +kernel
theorem dX13_writeBit_31 : decode cX13_writeBit 31 = .ok (.iload_n 2, 1) := by decide +kernel
theorem dX13_writeBit_32 : decode cX13_writeBit 32 = .ok (.baload, 1) := by decide +kernel
theorem dX13_writeBit_33 : decode cX13_writeBit 33 = .ok (.iload_n 1, 1) := by decide +kernel
theorem dX13_writeBit_34 : decode cX13_writeBit 34 = .ok (.aload_n 0, 1) := by decide +kernel
theorem dX13_writeBit_35 : decode cX13_writeBit 35 = .ok (.getfield 167, 3) := by decide +kernel
theorem dX13_writeBit_38 : decode cX13_writeBit 38 = .ok (.bipush 8, 2) := by decide +kernel
theorem dX13_writeBit_40 : decode cX13_writeBit 40 = .ok (.irem, 1) := by decide +kernel
theorem dX13_writeBit_41 : decode cX13_writeBit 41 = .ok (.ishl, 1) := by decide +kernel
theorem dX13_writeBit_42 : decode cX13_writeBit 42 = .ok (.ior, 1) := by decide +kernel
theorem dX13_writeBit_43 : decode cX13_writeBit 43 = .ok (.i2b, 1) := by decide +kernel
theorem dX13_writeBit_44 : decode cX13_writeBit 44 = .ok (.bastore, 1) := by decide +kernel
theorem dX13_writeBit_45 : decode cX13_writeBit 45 = .ok (.aload_n 0, 1) := by decide +kernel
theorem dX13_writeBit_46 : decode cX13_writeBit 46 = .ok (.dup, 1) := by decide +kernel
theorem dX13_writeBit_47 : decode cX13_writeBit 47 = .ok (.getfield 167, 3) := by decide +kernel
theorem dX13_writeBit_50 : decode cX13_writeBit 50 = .ok (.iconst 1, 1) := by decide +kernel
theorem dX13_writeBit_51 : decode cX13_writeBit 51 = .ok (.iadd, 1) := by decide +kernel
theorem dX13_writeBit_52 : decode cX13_writeBit 52 = .ok (.putfield 167, 3) := by decide +kernel
theorem dX13_writeBit_55 : decode cX13_writeBit 55 = .ok (.return_, 1) := by decide +kernel
theorem dX13_writeNumber_0 : decode cX13_writeNumber 0 = .ok (.iconst 0, 1) := by decide +kernel
theorem dX13_writeNumber_1 : decode cX13_writeNumber 1 = .ok (.istore_n 3, 1) := by decide +kernel
theorem dX13_writeNumber_2 : decode cX13_writeNumber 2 = .ok (.iload_n 3, 1) := by decide +kernel
theorem dX13_writeNumber_3 : decode cX13_writeNumber 3 = .ok (.iload_n 2, 1) := by decide +kernel
theorem dX13_writeNumber_4 : decode cX13_writeNumber 4 = .ok (.if_icmp .ge 18, 3) := by decide +kernel
theorem dX13_writeNumber_7 : decode cX13_writeNumber 7 = .ok (.aload_n 0, 1) := by decide +kernel
theorem dX13_writeNumber_8 : decode cX13_writeNumber 8 = .ok (.iload_n 1, 1) := by decide +kernel
theorem dX13_writeNumber_9 : decode cX13_writeNumber 9 = .ok (.iload_n 3, 1) := by decide +kernel
theorem dX13_writeNumber_10 : decode cX13_writeNumber 10 = .ok (.ishr, 1) := by decide +kernel
theorem dX13_writeNumber_11 : decode cX13_writeNumber 11 = .ok (.iconst 1, 1) := by decide +kernel
theorem dX13_writeNumber_12 : decode cX13_writeNumber 12 = .ok (.iand, 1) := by decide +kernel
theorem dX13_writeNumber_13 : decode cX13_writeNumber 13 = .ok (.invokevirtual 170, 3) := by decide +kernel
theorem dX13_writeNumber_16 : decode cX13_writeNumber 16 = .ok (.iinc 3 1, 3) := by decide +kernel
theorem dX13_writeNumber_19 : decode cX13_writeNumber 19 = .ok (.goto (-17), 3) := by decide +kernel
theorem dX13_writeNumber_22 : decode cX13_writeNumber 22 = .ok (.return_, 1) := by decide +kernel
theorem dX13_codeOf_0 : decode cX13_codeOf 0 = .ok (.iconst 0, 1) := by decide +kernel
theorem dX13_codeOf_1 : decode cX13_codeOf 1 = .ok (.istore 4, 2) := by decide +kernel
theorem dX13_codeOf_3 : decode cX13_codeOf 3 = .ok (.iconst 1, 1) := by decide +kernel
theorem dX13_codeOf_4 : decode cX13_codeOf 4 = .ok (.istore 5, 2) := by decide +kernel
theorem dX13_codeOf_6 : decode cX13_codeOf 6 = .ok (.iload 5, 2) := by decide +kernel
theorem dX13_codeOf_8 : decode cX13_codeOf 8 = .ok (.aload_n 0, 1) := by decide +kernel
theorem dX13_codeOf_9 : decode cX13_codeOf 9 = .ok (.iload_n 1, 1) := by decide +kernel
theorem dX13_codeOf_10 : decode cX13_codeOf 10 = .ok (.iload_n 3, 1) := by decide +kernel
theorem dX13_codeOf_11 : decode cX13_codeOf 11 = .ok (.iadd, 1) := by decide +kernel
theorem dX13_codeOf_12 : decode cX13_codeOf 12 = .ok (.iaload, 1) := by decide +kernel
theorem dX13_codeOf_13 : decode cX13_codeOf 13 = .ok (.if_icmp .gt 80, 3) := by decide +kernel
theorem dX13_codeOf_16 : decode cX13_codeOf 16 = .ok (.iconst 2, 1) := by decide +kernel
theorem dX13_codeOf_17 : decode cX13_codeOf 17 = .ok (.iload 4, 2) := by decide +kernel
theorem dX13_codeOf_19 : decode cX13_codeOf 19 = .ok (.imul, 1) := by decide +kernel
theorem dX13_codeOf_20 : decode cX13_codeOf 20 = .ok (.istore 4, 2) := by decide +kernel
theorem dX13_codeOf_22 : decode cX13_codeOf 22 = .ok (.iconst 0, 1) := by decide +kernel
theorem dX13_codeOf_23 : decode cX13_codeOf 23 = .ok (.istore 6, 2) := by decide +kernel
theorem dX13_codeOf_25 : decode cX13_codeOf 25 = .ok (.iload 6, 2) := by decide +kernel
theorem dX13_codeOf_27 : decode cX13_codeOf 27 = .ok (.iload_n 2, 1) := by decide +kernel
theorem dX13_codeOf_28 : decode cX13_codeOf 28 = .ok (.if_icmp .ge 59, 3) := by decide +kernel
theorem dX13_codeOf_31 : decode cX13_codeOf 31 = .ok (.iload 5, 2) := by decide +kernel
theorem dX13_codeOf_33 : decode cX13_codeOf 33 = .ok (.aload_n 0, 1) := by decide +kernel
theorem dX13_codeOf_34 : decode cX13_codeOf 34 = .ok (.iload_n 1, 1) := by decide +kernel
theorem dX13_codeOf_35 : decode cX13_codeOf 35 = .ok (.iload_n 3, 1) := by decide +kernel
theorem dX13_codeOf_36 : decode cX13_codeOf 36 = .ok (.iadd, 1) := by decide +kernel
theorem dX13_codeOf_37 : decode cX13_codeOf 37 = .ok (.iaload, 1) := by decide +kernel
theorem dX13_codeOf_38 : decode cX13_codeOf 38 = .ok (.if_icmp .lt 9, 3) := by decide +kernel
theorem dX13_codeOf_41 : decode cX13_codeOf 41 = .ok (.iload 6, 2) := by decide +kernel
theorem dX13_codeOf_43 : decode cX13_codeOf 43 = .ok (.iload_n 3, 1) := by decide +kernel
theorem dX13_codeOf_44 : decode cX13_codeOf 44 = .ok (.if_icmp .ge 7, 3) := by decide +kernel
theorem dX13_codeOf_47 : decode cX13_codeOf 47 = .ok (.iconst 1, 1) := by decide +kernel
theorem dX13_codeOf_48 : decode cX13_codeOf 48 = .ok (.goto 4, 3) := by decide +kernel
theorem dX13_codeOf_51 : decode cX13_codeOf 51 = .ok (.iconst 0, 1) := by decide +kernel
theorem dX13_codeOf_52 : decode cX13_codeOf 52 = .ok (.istore 7, 2) := by decide +kernel
theorem dX13_codeOf_54 : decode cX13_codeOf 54 = .ok (.aload_n 0, 1) := by decide +kernel
theorem dX13_codeOf_55 : decode cX13_codeOf 55 = .ok (.iload_n 1, 1) := by decide +kernel
theorem dX13_codeOf_56 : decode cX13_codeOf 56 = .ok (.iload 6, 2) := by decide +kernel
theorem dX13_codeOf_58 : decode cX13_codeOf 58 = .ok (.iadd, 1) := by decide +kernel
theorem dX13_codeOf_59 : decode cX13_codeOf 59 = .ok (.iaload, 1) := by decide +kernel
theorem dX13_codeOf_60 : decode cX13_codeOf 60 = .ok (.iload 5, 2) := by decide +kernel
theorem dX13_codeOf_62 : decode cX13_codeOf 62 = .ok (.if_icmp .ne 15, 3) := by decide +kernel
theorem dX13_codeOf_65 : decode cX13_codeOf 65 = .ok (.iload 7, 2) := by decide +kernel
theorem dX13_codeOf_67 : decode cX13_codeOf 67 = .ok (.ifCond .eq 10, 3) := by decide +kernel
theorem dX13_codeOf_70 : decode cX13_codeOf 70 = .ok (.iload 4, 2) := by decide +kernel
theorem dX13_codeOf_72 : decode cX13_codeOf 72 = .ok (.iconst 1, 1) := by decide +kernel
theorem dX13_codeOf_73 : decode cX13_codeOf 73 = .ok (.iadd, 1) := by decide +kernel
theorem dX13_codeOf_74 : decode cX13_codeOf 74 = .ok (.goto 5, 3) := by decide +kernel
theorem dX13_codeOf_77 : decode cX13_codeOf 77 = .ok (.iload 4, 2) := by decide +kernel
theorem dX13_codeOf_79 : decode cX13_codeOf 79 = .ok (.istore 4, 2) := by decide +kernel
theorem dX13_codeOf_81 : decode cX13_codeOf 81 = .ok (.iinc 6 1, 3) := by decide +kernel
theorem dX13_codeOf_84 : decode cX13_codeOf 84 = .ok (.goto (-59), 3) := by decide +kernel
theorem dX13_codeOf_87 : decode cX13_codeOf 87 = .ok (.iinc 5 1, 3) := by decide +kernel
theorem dX13_codeOf_90 : decode cX13_codeOf 90 = .ok (.goto (-84), 3) := by decide +kernel
theorem dX13_codeOf_93 : decode cX13_codeOf 93 = .ok (.iload 4, 2) := by decide +kernel
theorem dX13_codeOf_95 : decode cX13_codeOf 95 = .ok (.ireturn, 1) := by decide +kernel
theorem dX13_makeCodes_0 : decode cX13_makeCodes 0 = .ok (.iconst 0, 1) := by decide +kernel
theorem dX13_makeCodes_1 : decode cX13_makeCodes 1 = .ok (.istore 4, 2) := by decide +kernel
theorem dX13_makeCodes_3 : decode cX13_makeCodes 3 = .ok (.iload 4, 2) := by decide +kernel
theorem dX13_makeCodes_5 : decode cX13_makeCodes 5 = .ok (.iload_n 3, 1) := by decide +kernel
theorem dX13_makeCodes_6 : decode cX13_makeCodes 6 = .ok (.if_icmp .ge 39, 3) := by decide +kernel
theorem dX13_makeCodes_9 : decode cX13_makeCodes 9 = .ok (.aload_n 0, 1) := by decide +kernel
theorem dX13_makeCodes_10 : decode cX13_makeCodes 10 = .ok (.getfield 120, 3) := by decide +kernel
theorem dX13_makeCodes_13 : decode cX13_makeCodes 13 = .ok (.iload_n 2, 1) := by decide +kernel
theorem dX13_makeCodes_14 : decode cX13_makeCodes 14 = .ok (.iload 4, 2) := by decide +kernel
theorem dX13_makeCodes_16 : decode cX13_makeCodes 16 = .ok (.iadd, 1) := by decide +kernel
theorem dX13_makeCodes_17 : decode cX13_makeCodes 17 = .ok (.aload_n 1, 1) := by decide +kernel
theorem dX13_makeCodes_18 : decode cX13_makeCodes 18 = .ok (.iload_n 2, 1) := by decide +kernel
theorem dX13_makeCodes_19 : decode cX13_makeCodes 19 = .ok (.iload 4, 2) := by decide +kernel
theorem dX13_makeCodes_21 : decode cX13_makeCodes 21 = .ok (.iadd, 1) := by decide +kernel
theorem dX13_makeCodes_22 : decode cX13_makeCodes 22 = .ok (.iaload, 1) := by decide +kernel
theorem dX13_makeCodes_23 : decode cX13_makeCodes 23 = .ok (.ifCond .le 14, 3) := by decide +kernel
theorem dX13_makeCodes_26 : decode cX13_makeCodes 26 = .ok (.aload_n 1, 1) := by decide +kernel
theorem dX13_makeCodes_27 : decode cX13_makeCodes 27 = .ok (.iload_n 2, 1) := by decide +kernel
theorem dX13_makeCodes_28 : decode cX13_makeCodes 28 = .ok (.iload_n 3, 1) := by decide +kernel
theorem dX13_makeCodes_29 : decode cX13_makeCodes 29 = .ok (.iload 4, 2) := by decide +kernel
theorem dX13_makeCodes_31 : decode cX13_makeCodes 31 = .ok (.invokestatic 174, 3) := by decide +kernel
theorem dX13_makeCodes_34 : decode cX13_makeCodes 34 = .ok (.goto 4, 3) := by decide +kernel
theorem dX13_makeCodes_37 : decode cX13_makeCodes 37 = .ok (.iconst 0, 1) := by decide +kernel
theorem dX13_makeCodes_38 : decode cX13_makeCodes 38 = .ok (.iastore, 1) := by decide +kernel
theorem dX13_makeCodes_39 : decode cX13_makeCodes 39 = .ok (.iinc 4 1, 3) := by decide +kernel
theorem dX13_makeCodes_42 : decode cX13_makeCodes 42 = .ok (.goto (-39), 3) := by decide +kernel
theorem dX13_makeCodes_45 : decode cX13_makeCodes 45 = .ok (.return_, 1) := by decide +kernel
theorem dX13_writeCode_0 : decode cX13_writeCode 0 = .ok (.aload_n 1, 1) := by decide +kernel
theorem dX13_writeCode_1 : decode cX13_writeCode 1 = .ok (.iload_n 2, 1) := by decide +kernel
theorem dX13_writeCode_2 : decode cX13_writeCode 2 = .ok (.iaload, 1) := by decide +kernel
theorem dX13_writeCode_3 : decode cX13_writeCode 3 = .ok (.iconst 1, 1) := by decide +kernel
theorem dX13_writeCode_4 : decode cX13_writeCode 4 = .ok (.isub, 1) := by decide +kernel
theorem dX13_writeCode_5 : decode cX13_writeCode 5 = .ok (.istore_n 3, 1) := by decide +kernel
theorem dX13_writeCode_6 : decode cX13_writeCode 6 = .ok (.iload_n 3, 1) := by decide +kernel
theorem dX13_writeCode_7 : decode cX13_writeCode 7 = .ok (.ifCond .lt 23, 3) := by decide +kernel
theorem dX13_writeCode_10 : decode cX13_writeCode 10 = .ok (.aload_n 0, 1) := by decide +kernel
theorem dX13_writeCode_11 : decode cX13_writeCode 11 = .ok (.aload_n 0, 1) := by decide +kernel
theorem dX13_writeCode_12 : decode cX13_writeCode 12 = .ok (.getfield 120, 3) := by decide +kernel
theorem dX13_writeCode_15 : decode cX13_writeCode 15 = .ok (.iload_n 2, 1) := by decide +kernel
theorem dX13_writeCode_16 : decode cX13_writeCode 16 = .ok (.iaload, 1) := by decide +kernel
theorem dX13_writeCode_17 : decode cX13_writeCode 17 = .ok (.iload_n 3, 1) := by decide +kernel
theorem dX13_writeCode_18 : decode cX13_writeCode 18 = .ok (.ishr, 1) := by decide +kernel
theorem dX13_writeCode_19 : decode cX13_writeCode 19 = .ok (.iconst 1, 1) := by decide +kernel
theorem dX13_writeCode_20 : decode cX13_writeCode 20 = .ok (.iand, 1) := by decide +kernel
theorem dX13_writeCode_21 : decode cX13_writeCode 21 = .ok (.invokevirtual 170, 3) := by decide +kernel
theorem dX13_writeCode_24 : decode cX13_writeCode 24 = .ok (.iinc 3 (-1), 3) := by decide +kernel
theorem dX13_writeCode_27 : decode cX13_writeCode 27 = .ok (.goto (-21), 3) := by decide +kernel
theorem dX13_writeCode_30 : decode cX13_writeCode 30 = .ok (.return_, 1) := by decide +kernel
theorem dX13_notePairs_0 : decode cX13_notePairs 0 = .ok (.iconst 0, 1) := by decide +kernel
theorem dX13_notePairs_1 : decode cX13_notePairs 1 = .ok (.istore 4, 2) := by decide +kernel
theorem dX13_notePairs_3 : decode cX13_notePairs 3 = .ok (.iload 4, 2) := by decide +kernel
theorem dX13_notePairs_5 : decode cX13_notePairs 5 = .ok (.ldc 20, 2) := by decide +kernel
theorem dX13_notePairs_7 : decode cX13_notePairs 7 = .ok (.if_icmp .ge 17, 3) := by decide +kernel
theorem dX13_notePairs_10 : decode cX13_notePairs 10 = .ok (.aload_n 0, 1) := by decide +kernel
theorem dX13_notePairs_11 : decode cX13_notePairs 11 = .ok (.getfield 81, 3) := by decide +kernel
theorem dX13_notePairs_14 : decode cX13_notePairs 14 = .ok (.iload 4, 2) := by decide +kernel
theorem dX13_notePairs_16 : decode cX13_notePairs 16 = .ok (.iconst (-1), 1) := by decide +kernel
theorem dX13_notePairs_17 : decode cX13_notePairs 17 = .ok (.iastore, 1) := by decide +kernel
theorem dX13_notePairs_18 : decode cX13_notePairs 18 = .ok (.iinc 4 1, 3) := by decide +kernel
theorem dX13_notePairs_21 : decode cX13_notePairs 21 = .ok (.goto (-18), 3) := by decide +kernel
theorem dX13_notePairs_24 : decode cX13_notePairs 24 = .ok (.iconst 0, 1) := by decide +kernel
theorem dX13_notePairs_25 : decode cX13_notePairs 25 = .ok (.istore 4, 2) := by decide +kernel
theorem dX13_notePairs_27 : decode cX13_notePairs 27 = .ok (.iload 4, 2) := by decide +kernel
theorem dX13_notePairs_29 : decode cX13_notePairs 29 = .ok (.iconst 1, 1) := by decide +kernel
theorem dX13_notePairs_30 : decode cX13_notePairs 30 = .ok (.iadd, 1) := by decide +kernel
theorem dX13_notePairs_31 : decode cX13_notePairs 31 = .ok (.iload_n 3, 1) := by decide +kernel
theorem dX13_notePairs_32 : decode cX13_notePairs 32 = .ok (.if_icmp .ge 60, 3) := by decide +kernel
theorem dX13_notePairs_35 : decode cX13_notePairs 35 = .ok (.aload_n 1, 1) := by decide +kernel
theorem dX13_notePairs_36 : decode cX13_notePairs 36 = .ok (.iload_n 2, 1) := by decide +kernel
theorem dX13_notePairs_37 : decode cX13_notePairs 37 = .ok (.iload 4, 2) := by decide +kernel
theorem dX13_notePairs_39 : decode cX13_notePairs 39 = .ok (.iadd, 1) := by decide +kernel
theorem dX13_notePairs_40 : decode cX13_notePairs 40 = .ok (.baload, 1) := by decide +kernel
theorem dX13_notePairs_41 : decode cX13_notePairs 41 = .ok (.sipush 255, 3) := by decide +kernel
theorem dX13_notePairs_44 : decode cX13_notePairs 44 = .ok (.iand, 1) := by decide +kernel
theorem dX13_notePairs_45 : decode cX13_notePairs 45 = .ok (.bipush 8, 2) := by decide +kernel
theorem dX13_notePairs_47 : decode cX13_notePairs 47 = .ok (.ishl, 1) := by decide +kernel
theorem dX13_notePairs_48 : decode cX13_notePairs 48 = .ok (.aload_n 1, 1) := by decide +kernel
theorem dX13_notePairs_49 : decode cX13_notePairs 49 = .ok (.iload_n 2, 1) := by decide +kernel
theorem dX13_notePairs_50 : decode cX13_notePairs 50 = .ok (.iload 4, 2) := by decide +kernel
theorem dX13_notePairs_52 : decode cX13_notePairs 52 = .ok (.iadd, 1) := by decide +kernel
theorem dX13_notePairs_53 : decode cX13_notePairs 53 = .ok (.iconst 1, 1) := by decide +kernel
theorem dX13_notePairs_54 : decode cX13_notePairs 54 = .ok (.iadd, 1) := by decide +kernel
theorem dX13_notePairs_55 : decode cX13_notePairs 55 = .ok (.baload, 1) := by decide +kernel
theorem dX13_notePairs_56 : decode cX13_notePairs 56 = .ok (.sipush 255, 3) := by decide +kernel
theorem dX13_notePairs_59 : decode cX13_notePairs 59 = .ok (.iand, 1) := by decide +kernel
theorem dX13_notePairs_60 : decode cX13_notePairs 60 = .ok (.ior, 1) := by decide +kernel
theorem dX13_notePairs_61 : decode cX13_notePairs 61 = .ok (.istore 5, 2) := by decide +kernel
theorem dX13_notePairs_63 : decode cX13_notePairs 63 = .ok (.aload_n 0, 1) := by decide +kernel
theorem dX13_notePairs_64 : decode cX13_notePairs 64 = .ok (.getfield 78, 3) := by decide +kernel
theorem dX13_notePairs_67 : decode cX13_notePairs 67 = .ok (.iload 4, 2) := by decide +kernel
theorem dX13_notePairs_69 : decode cX13_notePairs 69 = .ok (.aload_n 0, 1) := by decide +kernel
theorem dX13_notePairs_70 : decode cX13_notePairs 70 = .ok (.getfield 81, 3) := by decide +kernel
theorem dX13_notePairs_73 : decode cX13_notePairs 73 = .ok (.iload 5, 2) := by decide +kernel
theorem dX13_notePairs_75 : decode cX13_notePairs 75 = .ok (.iaload, 1) := by decide +kernel
theorem dX13_notePairs_76 : decode cX13_notePairs 76 = .ok (.iastore, 1) := by decide +kernel
theorem dX13_notePairs_77 : decode cX13_notePairs 77 = .ok (.aload_n 0, 1) := by decide +kernel
theorem dX13_notePairs_78 : decode cX13_notePairs 78 = .ok (.getfield 81, 3) := by decide +kernel
theorem dX13_notePairs_81 : decode cX13_notePairs 81 = .ok (.iload 5, 2) := by decide +kernel
theorem dX13_notePairs_83 : decode cX13_notePairs 83 = .ok (.iload 4, 2) := by decide +kernel
theorem dX13_notePairs_85 : decode cX13_notePairs 85 = .ok (.iastore, 1) := by decide +kernel
theorem dX13_notePairs_86 : decode cX13_notePairs 86 = .ok (.iinc 4 1, 3) := by decide +kernel
theorem dX13_notePairs_89 : decode cX13_notePairs 89 = .ok (.goto (-62), 3) := by decide +kernel
theorem dX13_notePairs_92 : decode cX13_notePairs 92 = .ok (.return_, 1) := by decide +kernel
theorem dX13_cutPart_0 : decode cX13_cutPart 0 = .ok (.aload_n 0, 1) := by decide +kernel
theorem dX13_cutPart_1 : decode cX13_cutPart 1 = .ok (.iconst 0, 1) := by decide +kernel
theorem dX13_cutPart_2 : decode cX13_cutPart 2 = .ok (.putfield 178, 3) := by decide +kernel
theorem dX13_cutPart_5 : decode cX13_cutPart 5 = .ok (.iload_n 3, 1) := by decide +kernel
theorem dX13_cutPart_6 : decode cX13_cutPart 6 = .ok (.istore 5, 2) := by decide +kernel
theorem dX13_cutPart_8 : decode cX13_cutPart 8 = .ok (.iload 5, 2) := by decide +kernel
theorem dX13_cutPart_10 : decode cX13_cutPart 10 = .ok (.iload 4, 2) := by decide +kernel
theorem dX13_cutPart_12 : decode cX13_cutPart 12 = .ok (.if_icmp .ge 252, 3) := by decide +kernel
theorem dX13_cutPart_15 : decode cX13_cutPart 15 = .ok (.iconst 0, 1) := by decide +kernel
theorem dX13_cutPart_16 : decode cX13_cutPart 16 = .ok (.istore 6, 2) := by decide +kernel
theorem dX13_cutPart_18 : decode cX13_cutPart 18 = .ok (.iconst 0, 1) := by decide +kernel
theorem dX13_cutPart_19 : decode cX13_cutPart 19 = .ok (.istore 7, 2) := by decide +kernel
theorem dX13_cutPart_21 : decode cX13_cutPart 21 = .ok (.iconst 0, 1) := by decide +kernel
theorem dX13_cutPart_22 : decode cX13_cutPart 22 = .ok (.istore 8, 2) := by decide +kernel
theorem dX13_cutPart_24 : decode cX13_cutPart 24 = .ok (.iload 5, 2) := by decide +kernel
theorem dX13_cutPart_26 : decode cX13_cutPart 26 = .ok (.iconst 3, 1) := by decide +kernel
theorem dX13_cutPart_27 : decode cX13_cutPart 27 = .ok (.iadd, 1) := by decide +kernel
theorem dX13_cutPart_28 : decode cX13_cutPart 28 = .ok (.iload 4, 2) := by decide +kernel
theorem dX13_cutPart_30 : decode cX13_cutPart 30 = .ok (.if_icmp .gt 13, 3) := by decide +kernel
theorem dX13_cutPart_33 : decode cX13_cutPart 33 = .ok (.aload_n 0, 1) := by decide +kernel
theorem dX13_cutPart_34 : decode cX13_cutPart 34 = .ok (.getfield 78, 3) := by decide +kernel
theorem dX13_cutPart_37 : decode cX13_cutPart 37 = .ok (.iload 5, 2) := by decide +kernel
theorem dX13_cutPart_39 : decode cX13_cutPart 39 = .ok (.iaload, 1) := by decide +kernel
theorem dX13_cutPart_40 : decode cX13_cutPart 40 = .ok (.goto 4, 3) := by decide +kernel
theorem dX13_cutPart_43 : decode cX13_cutPart 43 = .ok (.iconst (-1), 1) := by decide +kernel
theorem dX13_cutPart_44 : decode cX13_cutPart 44 = .ok (.istore 9, 2) := by decide +kernel
theorem dX13_cutPart_46 : decode cX13_cutPart 46 = .ok (.iload 9, 2) := by decide +kernel
theorem dX13_cutPart_48 : decode cX13_cutPart 48 = .ok (.ifCond .lt 144, 3) := by decide +kernel
theorem dX13_cutPart_51 : decode cX13_cutPart 51 = .ok (.iload 5, 2) := by decide +kernel
theorem dX13_cutPart_53 : decode cX13_cutPart 53 = .ok (.iload 9, 2) := by decide +kernel
theorem dX13_cutPart_55 : decode cX13_cutPart 55 = .ok (.isub, 1) := by decide +kernel
theorem dX13_cutPart_56 : decode cX13_cutPart 56 = .ok (.ldc 181, 2) := by decide +kernel
theorem dX13_cutPart_58 : decode cX13_cutPart 58 = .ok (.if_icmp .gt 134, 3) := by decide +kernel
theorem dX13_cutPart_61 : decode cX13_cutPart 61 = .ok (.iload 8, 2) := by decide +kernel
theorem dX13_cutPart_63 : decode cX13_cutPart 63 = .ok (.bipush 16, 2) := by decide +kernel
theorem dX13_cutPart_65 : decode cX13_cutPart 65 = .ok (.if_icmp .ge 127, 3) := by decide +kernel
theorem dX13_cutPart_68 : decode cX13_cutPart 68 = .ok (.iconst 2, 1) := by decide +kernel
theorem dX13_cutPart_69 : decode cX13_cutPart 69 = .ok (.istore 10, 2) := by decide +kernel
theorem dX13_cutPart_71 : decode cX13_cutPart 71 = .ok (.iload 5, 2) := by decide +kernel
theorem dX13_cutPart_73 : decode cX13_cutPart 73 = .ok (.iload 10, 2) := by decide +kernel
theorem dX13_cutPart_75 : decode cX13_cutPart 75 = .ok (.iadd, 1) := by decide +kernel
theorem dX13_cutPart_76 : decode cX13_cutPart 76 = .ok (.iload 4, 2) := by decide +kernel
theorem dX13_cutPart_78 : decode cX13_cutPart 78 = .ok (.if_icmp .ge 38, 3) := by decide +kernel
theorem dX13_cutPart_81 : decode cX13_cutPart 81 = .ok (.iload 10, 2) := by decide +kernel
theorem dX13_cutPart_83 : decode cX13_cutPart 83 = .ok (.sipush 258, 3) := by decide +kernel
theorem dX13_cutPart_86 : decode cX13_cutPart 86 = .ok (.if_icmp .ge 30, 3) := by decide +kernel
theorem dX13_cutPart_89 : decode cX13_cutPart 89 = .ok (.aload_n 1, 1) := by decide +kernel
theorem dX13_cutPart_90 : decode cX13_cutPart 90 = .ok (.iload_n 2, 1) := by decide +kernel
theorem dX13_cutPart_91 : decode cX13_cutPart 91 = .ok (.iload 9, 2) := by decide +kernel
theorem dX13_cutPart_93 : decode cX13_cutPart 93 = .ok (.iadd, 1) := by decide +kernel
theorem dX13_cutPart_94 : decode cX13_cutPart 94 = .ok (.iload 10, 2) := by decide +kernel
theorem dX13_cutPart_96 : decode cX13_cutPart 96 = .ok (.iadd, 1) := by decide +kernel
theorem dX13_cutPart_97 : decode cX13_cutPart 97 = .ok (.baload, 1) := by decide +kernel
theorem dX13_cutPart_98 : decode cX13_cutPart 98 = .ok (.aload_n 1, 1) := by decide +kernel
theorem dX13_cutPart_99 : decode cX13_cutPart 99 = .ok (.iload_n 2, 1) := by decide +kernel
theorem dX13_cutPart_100 : decode cX13_cutPart 100 = .ok (.iload 5, 2) := by decide +kernel
theorem dX13_cutPart_102 : decode cX13_cutPart 102 = .ok (.iadd, 1) := by decide +kernel
theorem dX13_cutPart_103 : decode cX13_cutPart 103 = .ok (.iload 10, 2) := by decide +kernel
theorem dX13_cutPart_105 : decode cX13_cutPart 105 = .ok (.iadd, 1) := by decide +kernel
theorem dX13_cutPart_106 : decode cX13_cutPart 106 = .ok (.baload, 1) := by decide +kernel
theorem dX13_cutPart_107 : decode cX13_cutPart 107 = .ok (.if_icmp .ne 9, 3) := by decide +kernel
theorem dX13_cutPart_110 : decode cX13_cutPart 110 = .ok (.iinc 10 1, 3) := by decide +kernel
theorem dX13_cutPart_113 : decode cX13_cutPart 113 = .ok (.goto (-42), 3) := by decide +kernel
theorem dX13_cutPart_116 : decode cX13_cutPart 116 = .ok (.iload 10, 2) := by decide +kernel
theorem dX13_cutPart_118 : decode cX13_cutPart 118 = .ok (.iconst 2, 1) := by decide +kernel
theorem dX13_cutPart_119 : decode cX13_cutPart 119 = .ok (.if_icmp .le 10, 3) := by decide +kernel
theorem dX13_cutPart_122 : decode cX13_cutPart 122 = .ok (.iload 8, 2) := by decide +kernel
theorem dX13_cutPart_124 : decode cX13_cutPart 124 = .ok (.iconst 1, 1) := by decide +kernel
theorem dX13_cutPart_125 : decode cX13_cutPart 125 = .ok (.iadd, 1) := by decide +kernel
theorem dX13_cutPart_126 : decode cX13_cutPart 126 = .ok (.goto 5, 3) := by decide +kernel
theorem dX13_cutPart_129 : decode cX13_cutPart 129 = .ok (.iload 8, 2) := by decide +kernel
theorem dX13_cutPart_131 : decode cX13_cutPart 131 = .ok (.istore 8, 2) := by decide +kernel
theorem dX13_cutPart_133 : decode cX13_cutPart 133 = .ok (.iload 10, 2) := by decide +kernel
theorem dX13_cutPart_135 : decode cX13_cutPart 135 = .ok (.iconst 2, 1) := by decide +kernel
theorem dX13_cutPart_136 : decode cX13_cutPart 136 = .ok (.if_icmp .le 18, 3) := by decide +kernel
theorem dX13_cutPart_139 : decode cX13_cutPart 139 = .ok (.iload 10, 2) := by decide +kernel
theorem dX13_cutPart_141 : decode cX13_cutPart 141 = .ok (.iload 6, 2) := by decide +kernel
theorem dX13_cutPart_143 : decode cX13_cutPart 143 = .ok (.if_icmp .le 11, 3) := by decide +kernel
theorem dX13_cutPart_146 : decode cX13_cutPart 146 = .ok (.iload 5, 2) := by decide +kernel
theorem dX13_cutPart_148 : decode cX13_cutPart 148 = .ok (.iload 9, 2) := by decide +kernel
theorem dX13_cutPart_150 : decode cX13_cutPart 150 = .ok (.isub, 1) := by decide +kernel
theorem dX13_cutPart_151 : decode cX13_cutPart 151 = .ok (.goto 5, 3) := by decide +kernel
theorem dX13_cutPart_154 : decode cX13_cutPart 154 = .ok (.iload 7, 2) := by decide +kernel
theorem dX13_cutPart_156 : decode cX13_cutPart 156 = .ok (.istore 7, 2) := by decide +kernel
theorem dX13_cutPart_158 : decode cX13_cutPart 158 = .ok (.iload 10, 2) := by decide +kernel
theorem dX13_cutPart_160 : decode cX13_cutPart 160 = .ok (.iconst 2, 1) := by decide +kernel
theorem dX13_cutPart_161 : decode cX13_cutPart 161 = .ok (.if_icmp .le 15, 3) := by decide +kernel
theorem dX13_cutPart_164 : decode cX13_cutPart 164 = .ok (.iload 10, 2) := by decide +kernel
theorem dX13_cutPart_166 : decode cX13_cutPart 166 = .ok (.iload 6, 2) := by decide +kernel
theorem dX13_cutPart_168 : decode cX13_cutPart 168 = .ok (.if_icmp .le 8, 3) := by decide +kernel
theorem dX13_cutPart_171 : decode cX13_cutPart 171 = .ok (.iload 10, 2) := by decide +kernel
theorem dX13_cutPart_173 : decode cX13_cutPart 173 = .ok (.goto 5, 3) := by decide +kernel
theorem dX13_cutPart_176 : decode cX13_cutPart 176 = .ok (.iload 6, 2) := by decide +kernel
theorem dX13_cutPart_178 : decode cX13_cutPart 178 = .ok (.istore 6, 2) := by decide +kernel
theorem dX13_cutPart_180 : decode cX13_cutPart 180 = .ok (.aload_n 0, 1) := by decide +kernel
theorem dX13_cutPart_181 : decode cX13_cutPart 181 = .ok (.getfield 78, 3) := by decide +kernel
theorem dX13_cutPart_184 : decode cX13_cutPart 184 = .ok (.iload 9, 2) := by decide +kernel
theorem dX13_cutPart_186 : decode cX13_cutPart 186 = .ok (.iaload, 1) := by decide +kernel
theorem dX13_cutPart_187 : decode cX13_cutPart 187 = .ok (.istore 9, 2) := by decide +kernel
theorem dX13_cutPart_189 : decode cX13_cutPart 189 = .ok (.goto (-143), 3) := by decide +kernel
theorem dX13_cutPart_192 : decode cX13_cutPart 192 = .ok (.aload_n 0, 1) := by decide +kernel
theorem dX13_cutPart_193 : decode cX13_cutPart 193 = .ok (.getfield 84, 3) := by decide +kernel
theorem dX13_cutPart_196 : decode cX13_cutPart 196 = .ok (.aload_n 0, 1) := by decide +kernel
theorem dX13_cutPart_197 : decode cX13_cutPart 197 = .ok (.getfield 178, 3) := by decide +kernel
theorem dX13_cutPart_200 : decode cX13_cutPart 200 = .ok (.iload 6, 2) := by decide +kernel
theorem dX13_cutPart_202 : decode cX13_cutPart 202 = .ok (.iastore, 1) := by decide +kernel
theorem dX13_cutPart_203 : decode cX13_cutPart 203 = .ok (.aload_n 0, 1) := by decide +kernel
theorem dX13_cutPart_204 : decode cX13_cutPart 204 = .ok (.getfield 87, 3) := by decide +kernel
theorem dX13_cutPart_207 : decode cX13_cutPart 207 = .ok (.aload_n 0, 1) := by decide +kernel
theorem dX13_cutPart_208 : decode cX13_cutPart 208 = .ok (.getfield 178, 3) := by decide +kernel
theorem dX13_cutPart_211 : decode cX13_cutPart 211 = .ok (.iload 6, 2) := by decide +kernel
theorem dX13_cutPart_213 : decode cX13_cutPart 213 = .ok (.ifCond .le 8, 3) := by decide +kernel
theorem dX13_cutPart_216 : decode cX13_cutPart 216 = .ok (.iload 7, 2) := by decide +kernel
theorem dX13_cutPart_218 : decode cX13_cutPart 218 = .ok (.goto 13, 3) := by decide +kernel
theorem dX13_cutPart_221 : decode cX13_cutPart 221 = .ok (.aload_n 1, 1) := by decide +kernel
theorem dX13_cutPart_222 : decode cX13_cutPart 222 = .ok (.iload_n 2, 1) := by decide +kernel
theorem dX13_cutPart_223 : decode cX13_cutPart 223 = .ok (.iload 5, 2) := by decide +kernel
theorem dX13_cutPart_225 : decode cX13_cutPart 225 = .ok (.iadd, 1) := by decide +kernel
theorem dX13_cutPart_226 : decode cX13_cutPart 226 = .ok (.baload, 1) := by decide +kernel
theorem dX13_cutPart_227 : decode cX13_cutPart 227 = .ok (.sipush 255, 3) := by decide +kernel
theorem dX13_cutPart_230 : decode cX13_cutPart 230 = .ok (.iand, 1) := by decide +kernel
theorem dX13_cutPart_231 : decode cX13_cutPart 231 = .ok (.iastore, 1) := by decide +kernel
theorem dX13_cutPart_232 : decode cX13_cutPart 232 = .ok (.aload_n 0, 1) := by decide +kernel
theorem dX13_cutPart_233 : decode cX13_cutPart 233 = .ok (.dup, 1) := by decide +kernel
theorem dX13_cutPart_234 : decode cX13_cutPart 234 = .ok (.getfield 178, 3) := by decide +kernel
theorem dX13_cutPart_237 : decode cX13_cutPart 237 = .ok (.iconst 1, 1) := by decide +kernel
theorem dX13_cutPart_238 : decode cX13_cutPart 238 = .ok (.iadd, 1) := by decide +kernel
theorem dX13_cutPart_239 : decode cX13_cutPart 239 = .ok (.putfield 178, 3) := by decide +kernel
theorem dX13_cutPart_242 : decode cX13_cutPart 242 = .ok (.iload 6, 2) := by decide +kernel
theorem dX13_cutPart_244 : decode cX13_cutPart 244 = .ok (.ifCond .le 11, 3) := by decide +kernel
theorem dX13_cutPart_247 : decode cX13_cutPart 247 = .ok (.iload 5, 2) := by decide +kernel
theorem dX13_cutPart_249 : decode cX13_cutPart 249 = .ok (.iload 6, 2) := by decide +kernel
theorem dX13_cutPart_251 : decode cX13_cutPart 251 = .ok (.iadd, 1) := by decide +kernel
theorem dX13_cutPart_252 : decode cX13_cutPart 252 = .ok (.goto 7, 3) := by decide +kernel
theorem dX13_cutPart_255 : decode cX13_cutPart 255 = .ok (.iload 5, 2) := by decide +kernel
theorem dX13_cutPart_257 : decode cX13_cutPart 257 = .ok (.iconst 1, 1) := by decide +kernel
theorem dX13_cutPart_258 : decode cX13_cutPart 258 = .ok (.iadd, 1) := by decide +kernel
theorem dX13_cutPart_259 : decode cX13_cutPart 259 = .ok (.istore 5, 2) := by decide +kernel
theorem dX13_cutPart_261 : decode cX13_cutPart 261 = .ok (.goto (-253), 3) := by decide +kernel
theorem dX13_cutPart_264 : decode cX13_cutPart 264 = .ok (.return_, 1) := by decide +kernel
theorem dX13_countTokens_0 : decode cX13_countTokens 0 = .ok (.iconst 0, 1) := by decide +kernel
theorem dX13_countTokens_1 : decode cX13_countTokens 1 = .ok (.istore_n 1, 1) := by decide +kernel
theorem dX13_countTokens_2 : decode cX13_countTokens 2 = .ok (.iload_n 1, 1) := by decide +kernel
theorem dX13_countTokens_3 : decode cX13_countTokens 3 = .ok (.sipush 339, 3) := by decide +kernel
theorem dX13_countTokens_6 : decode cX13_countTokens 6 = .ok (.if_icmp .ge 16, 3) := by decide +kernel
theorem dX13_countTokens_9 : decode cX13_countTokens 9 = .ok (.aload_n 0, 1) := by decide +kernel
theorem dX13_countTokens_10 : decode cX13_countTokens 10 = .ok (.getfield 90, 3) := by decide +kernel
theorem dX13_countTokens_13 : decode cX13_countTokens 13 = .ok (.iload_n 1, 1) := by decide +kernel
theorem dX13_countTokens_14 : decode cX13_countTokens 14 = .ok (.iconst 0, 1) := by decide +kernel
theorem dX13_countTokens_15 : decode cX13_countTokens 15 = .ok (.iastore, 1) := by decide +kernel
theorem dX13_countTokens_16 : decode cX13_countTokens 16 = .ok (.iinc 1 1, 3) := by decide +kernel
theorem dX13_countTokens_19 : decode cX13_countTokens 19 = .ok (.goto (-17), 3) := by decide +kernel
theorem dX13_countTokens_22 : decode cX13_countTokens 22 = .ok (.aload_n 0, 1) := by decide +kernel
theorem dX13_countTokens_23 : decode cX13_countTokens 23 = .ok (.getfield 90, 3) := by decide +kernel
theorem dX13_countTokens_26 : decode cX13_countTokens 26 = .ok (.sipush 256, 3) := by decide +kernel
theorem dX13_countTokens_29 : decode cX13_countTokens 29 = .ok (.iconst 1, 1) := by decide +kernel
theorem dX13_countTokens_30 : decode cX13_countTokens 30 = .ok (.iastore, 1) := by decide +kernel
theorem dX13_countTokens_31 : decode cX13_countTokens 31 = .ok (.iconst 0, 1) := by decide +kernel
theorem dX13_countTokens_32 : decode cX13_countTokens 32 = .ok (.istore_n 1, 1) := by decide +kernel
theorem dX13_countTokens_33 : decode cX13_countTokens 33 = .ok (.iload_n 1, 1) := by decide +kernel
theorem dX13_countTokens_34 : decode cX13_countTokens 34 = .ok (.aload_n 0, 1) := by decide +kernel
theorem dX13_countTokens_35 : decode cX13_countTokens 35 = .ok (.getfield 178, 3) := by decide +kernel
theorem dX13_countTokens_38 : decode cX13_countTokens 38 = .ok (.if_icmp .ge 76, 3) := by decide +kernel
theorem dX13_countTokens_41 : decode cX13_countTokens 41 = .ok (.aload_n 0, 1) := by decide +kernel
theorem dX13_countTokens_42 : decode cX13_countTokens 42 = .ok (.getfield 84, 3) := by decide +kernel
theorem dX13_countTokens_45 : decode cX13_countTokens 45 = .ok (.iload_n 1, 1) := by decide +kernel
theorem dX13_countTokens_46 : decode cX13_countTokens 46 = .ok (.iaload, 1) := by decide +kernel
theorem dX13_countTokens_47 : decode cX13_countTokens 47 = .ok (.ifCond .ne 21, 3) := by decide +kernel
theorem dX13_countTokens_50 : decode cX13_countTokens 50 = .ok (.aload_n 0, 1) := by decide +kernel
theorem dX13_countTokens_51 : decode cX13_countTokens 51 = .ok (.getfield 90, 3) := by decide +kernel
theorem dX13_countTokens_54 : decode cX13_countTokens 54 = .ok (.aload_n 0, 1) := by decide +kernel
theorem dX13_countTokens_55 : decode cX13_countTokens 55 = .ok (.getfield 87, 3) := by decide +kernel
theorem dX13_countTokens_58 : decode cX13_countTokens 58 = .ok (.iload_n 1, 1) := by decide +kernel
theorem dX13_countTokens_59 : decode cX13_countTokens 59 = .ok (.iaload, 1) := by decide +kernel
theorem dX13_countTokens_60 : decode cX13_countTokens 60 = .ok (.dup2, 1) := by decide +kernel
theorem dX13_countTokens_61 : decode cX13_countTokens 61 = .ok (.iaload, 1) := by decide +kernel
theorem dX13_countTokens_62 : decode cX13_countTokens 62 = .ok (.iconst 1, 1) := by decide +kernel
theorem dX13_countTokens_63 : decode cX13_countTokens 63 = .ok (.iadd, 1) := by decide +kernel
theorem dX13_countTokens_64 : decode cX13_countTokens 64 = .ok (.iastore, 1) := by decide +kernel
theorem dX13_countTokens_65 : decode cX13_countTokens 65 = .ok (.goto 43, 3) := by decide +kernel
theorem dX13_countTokens_68 : decode cX13_countTokens 68 = .ok (.aload_n 0, 1) := by decide +kernel
theorem dX13_countTokens_69 : decode cX13_countTokens 69 = .ok (.getfield 90, 3) := by decide +kernel
theorem dX13_countTokens_72 : decode cX13_countTokens 72 = .ok (.aload_n 0, 1) := by decide +kernel
theorem dX13_countTokens_73 : decode cX13_countTokens 73 = .ok (.getfield 84, 3) := by decide +kernel
theorem dX13_countTokens_76 : decode cX13_countTokens 76 = .ok (.iload_n 1, 1) := by decide +kernel
theorem dX13_countTokens_77 : decode cX13_countTokens 77 = .ok (.iaload, 1) := by decide +kernel
theorem dX13_countTokens_78 : decode cX13_countTokens 78 = .ok (.invokestatic 182, 3) := by decide +kernel
theorem dX13_countTokens_81 : decode cX13_countTokens 81 = .ok (.dup2, 1) := by decide +kernel
theorem dX13_countTokens_82 : decode cX13_countTokens 82 = .ok (.iaload, 1) := by decide +kernel
theorem dX13_countTokens_83 : decode cX13_countTokens 83 = .ok (.iconst 1, 1) := by decide +kernel
theorem dX13_countTokens_84 : decode cX13_countTokens 84 = .ok (.iadd, 1) := by decide +kernel
theorem dX13_countTokens_85 : decode cX13_countTokens 85 = .ok (.iastore, 1) := by decide +kernel
theorem dX13_countTokens_86 : decode cX13_countTokens 86 = .ok (.aload_n 0, 1) := by decide +kernel
theorem dX13_countTokens_87 : decode cX13_countTokens 87 = .ok (.getfield 90, 3) := by decide +kernel
theorem dX13_countTokens_90 : decode cX13_countTokens 90 = .ok (.sipush 288, 3) := by decide +kernel
theorem dX13_countTokens_93 : decode cX13_countTokens 93 = .ok (.aload_n 0, 1) := by decide +kernel
theorem dX13_countTokens_94 : decode cX13_countTokens 94 = .ok (.getfield 87, 3) := by decide +kernel
theorem dX13_countTokens_97 : decode cX13_countTokens 97 = .ok (.iload_n 1, 1) := by decide +kernel
theorem dX13_countTokens_98 : decode cX13_countTokens 98 = .ok (.iaload, 1) := by decide +kernel
theorem dX13_countTokens_99 : decode cX13_countTokens 99 = .ok (.invokestatic 185, 3) := by decide +kernel
theorem dX13_countTokens_102 : decode cX13_countTokens 102 = .ok (.iadd, 1) := by decide +kernel
theorem dX13_countTokens_103 : decode cX13_countTokens 103 = .ok (.dup2, 1) := by decide +kernel
theorem dX13_countTokens_104 : decode cX13_countTokens 104 = .ok (.iaload, 1) := by decide +kernel
theorem dX13_countTokens_105 : decode cX13_countTokens 105 = .ok (.iconst 1, 1) := by decide +kernel
theorem dX13_countTokens_106 : decode cX13_countTokens 106 = .ok (.iadd, 1) := by decide +kernel
theorem dX13_countTokens_107 : decode cX13_countTokens 107 = .ok (.iastore, 1) := by decide +kernel
theorem dX13_countTokens_108 : decode cX13_countTokens 108 = .ok (.iinc 1 1, 3) := by decide +kernel
theorem dX13_countTokens_111 : decode cX13_countTokens 111 = .ok (.goto (-78), 3) := by decide +kernel
theorem dX13_countTokens_114 : decode cX13_countTokens 114 = .ok (.return_, 1) := by decide +kernel
theorem dX13_rank_0 : decode cX13_rank 0 = .ok (.iconst 0, 1) := by decide +kernel
theorem dX13_rank_1 : decode cX13_rank 1 = .ok (.istore_n 3, 1) := by decide +kernel
theorem dX13_rank_2 : decode cX13_rank 2 = .ok (.iconst 0, 1) := by decide +kernel
theorem dX13_rank_3 : decode cX13_rank 3 = .ok (.istore 4, 2) := by decide +kernel
theorem dX13_rank_5 : decode cX13_rank 5 = .ok (.iload 4, 2) := by decide +kernel
theorem dX13_rank_7 : decode cX13_rank 7 = .ok (.iload_n 2, 1) := by decide +kernel
theorem dX13_rank_8 : decode cX13_rank 8 = .ok (.if_icmp .ge 91, 3) := by decide +kernel
theorem dX13_rank_11 : decode cX13_rank 11 = .ok (.aload_n 0, 1) := by decide +kernel
theorem dX13_rank_12 : decode cX13_rank 12 = .ok (.getfield 90, 3) := by decide +kernel
theorem dX13_rank_15 : decode cX13_rank 15 = .ok (.iload_n 1, 1) := by decide +kernel
theorem dX13_rank_16 : decode cX13_rank 16 = .ok (.iload 4, 2) := by decide +kernel
theorem dX13_rank_18 : decode cX13_rank 18 = .ok (.iadd, 1) := by decide +kernel
theorem dX13_rank_19 : decode cX13_rank 19 = .ok (.iaload, 1) := by decide +kernel
theorem dX13_rank_20 : decode cX13_rank 20 = .ok (.ifCond .le 73, 3) := by decide +kernel
theorem dX13_rank_23 : decode cX13_rank 23 = .ok (.iload_n 3, 1) := by decide +kernel
theorem dX13_rank_24 : decode cX13_rank 24 = .ok (.istore 5, 2) := by decide +kernel
theorem dX13_rank_26 : decode cX13_rank 26 = .ok (.iload 5, 2) := by decide +kernel
theorem dX13_rank_28 : decode cX13_rank 28 = .ok (.ifCond .le 53, 3) := by decide +kernel
theorem dX13_rank_31 : decode cX13_rank 31 = .ok (.aload_n 0, 1) := by decide +kernel
theorem dX13_rank_32 : decode cX13_rank 32 = .ok (.getfield 90, 3) := by decide +kernel
theorem dX13_rank_35 : decode cX13_rank 35 = .ok (.iload_n 1, 1) := by decide +kernel
theorem dX13_rank_36 : decode cX13_rank 36 = .ok (.aload_n 0, 1) := by decide +kernel
theorem dX13_rank_37 : decode cX13_rank 37 = .ok (.getfield 99, 3) := by decide +kernel
theorem dX13_rank_40 : decode cX13_rank 40 = .ok (.iload 5, 2) := by decide +kernel
theorem dX13_rank_42 : decode cX13_rank 42 = .ok (.iconst 1, 1) := by decide +kernel
theorem dX13_rank_43 : decode cX13_rank 43 = .ok (.isub, 1) := by decide +kernel
theorem dX13_rank_44 : decode cX13_rank 44 = .ok (.iaload, 1) := by decide +kernel
theorem dX13_rank_45 : decode cX13_rank 45 = .ok (.iadd, 1) := by decide +kernel
theorem dX13_rank_46 : decode cX13_rank 46 = .ok (.iaload, 1) := by decide +kernel
theorem dX13_rank_47 : decode cX13_rank 47 = .ok (.aload_n 0, 1) := by decide +kernel
theorem dX13_rank_48 : decode cX13_rank 48 = .ok (.getfield 90, 3) := by decide +kernel
theorem dX13_rank_51 : decode cX13_rank 51 = .ok (.iload_n 1, 1) := by decide +kernel
theorem dX13_rank_52 : decode cX13_rank 52 = .ok (.iload 4, 2) := by decide +kernel
theorem dX13_rank_54 : decode cX13_rank 54 = .ok (.iadd, 1) := by decide +kernel
theorem dX13_rank_55 : decode cX13_rank 55 = .ok (.iaload, 1) := by decide +kernel
theorem dX13_rank_56 : decode cX13_rank 56 = .ok (.if_icmp .le 25, 3) := by decide +kernel
theorem dX13_rank_59 : decode cX13_rank 59 = .ok (.aload_n 0, 1) := by decide +kernel
theorem dX13_rank_60 : decode cX13_rank 60 = .ok (.getfield 99, 3) := by decide +kernel
theorem dX13_rank_63 : decode cX13_rank 63 = .ok (.iload 5, 2) := by decide +kernel
theorem dX13_rank_65 : decode cX13_rank 65 = .ok (.aload_n 0, 1) := by decide +kernel
theorem dX13_rank_66 : decode cX13_rank 66 = .ok (.getfield 99, 3) := by decide +kernel
theorem dX13_rank_69 : decode cX13_rank 69 = .ok (.iload 5, 2) := by decide +kernel
theorem dX13_rank_71 : decode cX13_rank 71 = .ok (.iconst 1, 1) := by decide +kernel
theorem dX13_rank_72 : decode cX13_rank 72 = .ok (.isub, 1) := by decide +kernel
theorem dX13_rank_73 : decode cX13_rank 73 = .ok (.iaload, 1) := by decide +kernel
theorem dX13_rank_74 : decode cX13_rank 74 = .ok (.iastore, 1) := by decide +kernel
theorem dX13_rank_75 : decode cX13_rank 75 = .ok (.iinc 5 (-1), 3) := by decide +kernel
theorem dX13_rank_78 : decode cX13_rank 78 = .ok (.goto (-52), 3) := by decide +kernel
theorem dX13_rank_81 : decode cX13_rank 81 = .ok (.aload_n 0, 1) := by decide +kernel
theorem dX13_rank_82 : decode cX13_rank 82 = .ok (.getfield 99, 3) := by decide +kernel
theorem dX13_rank_85 : decode cX13_rank 85 = .ok (.iload 5, 2) := by decide +kernel
theorem dX13_rank_87 : decode cX13_rank 87 = .ok (.iload 4, 2) := by decide +kernel
theorem dX13_rank_89 : decode cX13_rank 89 = .ok (.iastore, 1) := by decide +kernel
theorem dX13_rank_90 : decode cX13_rank 90 = .ok (.iinc 3 1, 3) := by decide +kernel
theorem dX13_rank_93 : decode cX13_rank 93 = .ok (.iinc 4 1, 3) := by decide +kernel
theorem dX13_rank_96 : decode cX13_rank 96 = .ok (.goto (-91), 3) := by decide +kernel
theorem dX13_rank_99 : decode cX13_rank 99 = .ok (.iload_n 3, 1) := by decide +kernel
theorem dX13_rank_100 : decode cX13_rank 100 = .ok (.ireturn, 1) := by decide +kernel
theorem dX13_findLengths_0 : decode cX13_findLengths 0 = .ok (.aload_n 0, 1) := by decide +kernel
theorem dX13_findLengths_1 : decode cX13_findLengths 1 = .ok (.iload_n 1, 1) := by decide +kernel
theorem dX13_findLengths_2 : decode cX13_findLengths 2 = .ok (.iload_n 2, 1) := by decide +kernel
theorem dX13_findLengths_3 : decode cX13_findLengths 3 = .ok (.invokevirtual 188, 3) := by decide +kernel
theorem dX13_findLengths_6 : decode cX13_findLengths 6 = .ok (.istore 4, 2) := by decide +kernel
theorem dX13_findLengths_8 : decode cX13_findLengths 8 = .ok (.iconst 0, 1) := by decide +kernel
theorem dX13_findLengths_9 : decode cX13_findLengths 9 = .ok (.istore 5, 2) := by decide +kernel
theorem dX13_findLengths_11 : decode cX13_findLengths 11 = .ok (.iload 5, 2) := by decide +kernel
theorem dX13_findLengths_13 : decode cX13_findLengths 13 = .ok (.iload_n 2, 1) := by decide +kernel
theorem dX13_findLengths_14 : decode cX13_findLengths 14 = .ok (.if_icmp .ge 19, 3) := by decide +kernel
theorem dX13_findLengths_17 : decode cX13_findLengths 17 = .ok (.aload_n 0, 1) := by decide +kernel
theorem dX13_findLengths_18 : decode cX13_findLengths 18 = .ok (.getfield 93, 3) := by decide +kernel
theorem dX13_findLengths_21 : decode cX13_findLengths 21 = .ok (.iload_n 1, 1) := by decide +kernel
theorem dX13_findLengths_22 : decode cX13_findLengths 22 = .ok (.iload 5, 2) := by decide +kernel
theorem dX13_findLengths_24 : decode cX13_findLengths 24 = .ok (.iadd, 1) := by decide +kernel
theorem dX13_findLengths_25 : decode cX13_findLengths 25 = .ok (.iconst 0, 1) := by decide +kernel
theorem dX13_findLengths_26 : decode cX13_findLengths 26 = .ok (.iastore, 1) := by decide +kernel
theorem dX13_findLengths_27 : decode cX13_findLengths 27 = .ok (.iinc 5 1, 3) := by decide +kernel
theorem dX13_findLengths_30 : decode cX13_findLengths 30 = .ok (.goto (-19), 3) := by decide +kernel
theorem dX13_findLengths_33 : decode cX13_findLengths 33 = .ok (.iload 4, 2) := by decide +kernel
theorem dX13_findLengths_35 : decode cX13_findLengths 35 = .ok (.iconst 1, 1) := by decide +kernel
theorem dX13_findLengths_36 : decode cX13_findLengths 36 = .ok (.if_icmp .ne 17, 3) := by decide +kernel
theorem dX13_findLengths_39 : decode cX13_findLengths 39 = .ok (.aload_n 0, 1) := by decide +kernel
theorem dX13_findLengths_40 : decode cX13_findLengths 40 = .ok (.getfield 93, 3) := by decide +kernel
theorem dX13_findLengths_43 : decode cX13_findLengths 43 = .ok (.iload_n 1, 1) := by decide +kernel
theorem dX13_findLengths_44 : decode cX13_findLengths 44 = .ok (.aload_n 0, 1) := by decide +kernel
theorem dX13_findLengths_45 : decode cX13_findLengths 45 = .ok (.getfield 99, 3) := by decide +kernel
theorem dX13_findLengths_48 : decode cX13_findLengths 48 = .ok (.iconst 0, 1) := by decide +kernel
theorem dX13_findLengths_49 : decode cX13_findLengths 49 = .ok (.iaload, 1) := by decide +kernel
theorem dX13_findLengths_50 : decode cX13_findLengths 50 = .ok (.iadd, 1) := by decide +kernel
theorem dX13_findLengths_51 : decode cX13_findLengths 51 = .ok (.iconst 1, 1) := by decide +kernel
theorem dX13_findLengths_52 : decode cX13_findLengths 52 = .ok (.iastore, 1) := by decide +kernel
theorem dX13_findLengths_53 : decode cX13_findLengths 53 = .ok (.iconst 0, 1) := by decide +kernel
theorem dX13_findLengths_54 : decode cX13_findLengths 54 = .ok (.istore 5, 2) := by decide +kernel
theorem dX13_findLengths_56 : decode cX13_findLengths 56 = .ok (.iconst 0, 1) := by decide +kernel
theorem dX13_findLengths_57 : decode cX13_findLengths 57 = .ok (.istore 6, 2) := by decide +kernel
theorem dX13_findLengths_59 : decode cX13_findLengths 59 = .ok (.iload 6, 2) := by decide +kernel
theorem dX13_findLengths_61 : decode cX13_findLengths 61 = .ok (.iload_n 3, 1) := by decide +kernel
theorem dX13_findLengths_62 : decode cX13_findLengths 62 = .ok (.if_icmp .ge 247, 3) := by decide +kernel
theorem dX13_findLengths_65 : decode cX13_findLengths 65 = .ok (.iload 4, 2) := by decide +kernel
theorem dX13_findLengths_67 : decode cX13_findLengths 67 = .ok (.iconst 1, 1) := by decide +kernel
theorem dX13_findLengths_68 : decode cX13_findLengths 68 = .ok (.if_icmp .le 241, 3) := by decide +kernel
theorem dX13_findLengths_71 : decode cX13_findLengths 71 = .ok (.iload 5, 2) := by decide +kernel
theorem dX13_findLengths_73 : decode cX13_findLengths 73 = .ok (.iconst 2, 1) := by decide +kernel
theorem dX13_findLengths_74 : decode cX13_findLengths 74 = .ok (.idiv, 1) := by decide +kernel
theorem dX13_findLengths_75 : decode cX13_findLengths 75 = .ok (.istore 7, 2) := by decide +kernel
theorem dX13_findLengths_77 : decode cX13_findLengths 77 = .ok (.iconst 0, 1) := by decide +kernel
theorem dX13_findLengths_78 : decode cX13_findLengths 78 = .ok (.istore 8, 2) := by decide +kernel
theorem dX13_findLengths_80 : decode cX13_findLengths 80 = .ok (.iconst 0, 1) := by decide +kernel
theorem dX13_findLengths_81 : decode cX13_findLengths 81 = .ok (.istore 9, 2) := by decide +kernel
theorem dX13_findLengths_83 : decode cX13_findLengths 83 = .ok (.iconst 0, 1) := by decide +kernel
theorem dX13_findLengths_84 : decode cX13_findLengths 84 = .ok (.istore 5, 2) := by decide +kernel
theorem dX13_findLengths_86 : decode cX13_findLengths 86 = .ok (.iload 8, 2) := by decide +kernel
theorem dX13_findLengths_88 : decode cX13_findLengths 88 = .ok (.iload 4, 2) := by decide +kernel
theorem dX13_findLengths_90 : decode cX13_findLengths 90 = .ok (.if_icmp .lt 10, 3) := by decide +kernel
theorem dX13_findLengths_93 : decode cX13_findLengths 93 = .ok (.iload 9, 2) := by decide +kernel
theorem dX13_findLengths_95 : decode cX13_findLengths 95 = .ok (.iload 7, 2) := by decide +kernel
theorem dX13_findLengths_97 : decode cX13_findLengths 97 = .ok (.if_icmp .ge 176, 3) := by decide +kernel
theorem dX13_findLengths_100 : decode cX13_findLengths 100 = .ok (.iload 9, 2) := by decide +kernel
theorem dX13_findLengths_102 : decode cX13_findLengths 102 = .ok (.iload 7, 2) := by decide +kernel
theorem dX13_findLengths_104 : decode cX13_findLengths 104 = .ok (.if_icmp .ge 27, 3) := by decide +kernel
theorem dX13_findLengths_107 : decode cX13_findLengths 107 = .ok (.aload_n 0, 1) := by decide +kernel
theorem dX13_findLengths_108 : decode cX13_findLengths 108 = .ok (.getfield 105, 3) := by decide +kernel
theorem dX13_findLengths_111 : decode cX13_findLengths 111 = .ok (.iconst 2, 1) := by decide +kernel
theorem dX13_findLengths_112 : decode cX13_findLengths 112 = .ok (.iload 9, 2) := by decide +kernel
theorem dX13_findLengths_114 : decode cX13_findLengths 114 = .ok (.imul, 1) := by decide +kernel
theorem dX13_findLengths_115 : decode cX13_findLengths 115 = .ok (.iaload, 1) := by decide +kernel
theorem dX13_findLengths_116 : decode cX13_findLengths 116 = .ok (.aload_n 0, 1) := by decide +kernel
theorem dX13_findLengths_117 : decode cX13_findLengths 117 = .ok (.getfield 105, 3) := by decide +kernel
theorem dX13_findLengths_120 : decode cX13_findLengths 120 = .ok (.iconst 2, 1) := by decide +kernel
theorem dX13_findLengths_121 : decode cX13_findLengths 121 = .ok (.iload 9, 2) := by decide +kernel
theorem dX13_findLengths_123 : decode cX13_findLengths 123 = .ok (.imul, 1) := by decide +kernel
theorem dX13_findLengths_124 : decode cX13_findLengths 124 = .ok (.iconst 1, 1) := by decide +kernel
theorem dX13_findLengths_125 : decode cX13_findLengths 125 = .ok (.iadd, 1) := by decide +kernel
theorem dX13_findLengths_126 : decode cX13_findLengths 126 = .ok (.iaload, 1) := by decide +kernel
theorem dX13_findLengths_127 : decode cX13_findLengths 127 = .ok (.iadd, 1) := by decide +kernel
theorem dX13_findLengths_128 : decode cX13_findLengths 128 = .ok (.goto 4, 3) := by decide +kernel
theorem dX13_findLengths_131 : decode cX13_findLengths 131 = .ok (.iconst 0, 1) := by decide +kernel
theorem dX13_findLengths_132 : decode cX13_findLengths 132 = .ok (.istore 10, 2) := by decide +kernel
theorem dX13_findLengths_134 : decode cX13_findLengths 134 = .ok (.iload 9, 2) := by decide +kernel
theorem dX13_findLengths_136 : decode cX13_findLengths 136 = .ok (.iload 7, 2) := by decide +kernel
theorem dX13_findLengths_138 : decode cX13_findLengths 138 = .ok (.if_icmp .eq 29, 3) := by decide +kernel
theorem dX13_findLengths_141 : decode cX13_findLengths 141 = .ok (.iload 8, 2) := by decide +kernel
theorem dX13_findLengths_143 : decode cX13_findLengths 143 = .ok (.iload 4, 2) := by decide +kernel
theorem dX13_findLengths_145 : decode cX13_findLengths 145 = .ok (.if_icmp .ge 26, 3) := by decide +kernel
theorem dX13_findLengths_148 : decode cX13_findLengths 148 = .ok (.aload_n 0, 1) := by decide +kernel
theorem dX13_findLengths_149 : decode cX13_findLengths 149 = .ok (.getfield 90, 3) := by decide +kernel
theorem dX13_findLengths_152 : decode cX13_findLengths 152 = .ok (.iload_n 1, 1) := by decide +kernel
theorem dX13_findLengths_153 : decode cX13_findLengths 153 = .ok (.aload_n 0, 1) := by decide +kernel
theorem dX13_findLengths_154 : decode cX13_findLengths 154 = .ok (.getfield 99, 3) := by decide +kernel
theorem dX13_findLengths_157 : decode cX13_findLengths 157 = .ok (.iload 8, 2) := by decide +kernel
theorem dX13_findLengths_159 : decode cX13_findLengths 159 = .ok (.iaload, 1) := by decide +kernel
theorem dX13_findLengths_160 : decode cX13_findLengths 160 = .ok (.iadd, 1) := by decide +kernel
theorem dX13_findLengths_161 : decode cX13_findLengths 161 = .ok (.iaload, 1) := by decide +kernel
theorem dX13_findLengths_162 : decode cX13_findLengths 162 = .ok (.iload 10, 2) := by decide +kernel
theorem dX13_findLengths_164 : decode cX13_findLengths 164 = .ok (.if_icmp .gt 7, 3) := by decide +kernel
theorem dX13_findLengths_167 : decode cX13_findLengths 167 = .ok (.iconst 1, 1) := by decide +kernel
theorem dX13_findLengths_168 : decode cX13_findLengths 168 = .ok (.goto 4, 3) := by decide +kernel
theorem dX13_findLengths_171 : decode cX13_findLengths 171 = .ok (.iconst 0, 1) := by decide +kernel
theorem dX13_findLengths_172 : decode cX13_findLengths 172 = .ok (.istore 11, 2) := by decide +kernel
theorem dX13_findLengths_174 : decode cX13_findLengths 174 = .ok (.aload_n 0, 1) := by decide +kernel
theorem dX13_findLengths_175 : decode cX13_findLengths 175 = .ok (.getfield 102, 3) := by decide +kernel
theorem dX13_findLengths_178 : decode cX13_findLengths 178 = .ok (.iload 5, 2) := by decide +kernel
theorem dX13_findLengths_180 : decode cX13_findLengths 180 = .ok (.iload 11, 2) := by decide +kernel
theorem dX13_findLengths_182 : decode cX13_findLengths 182 = .ok (.ifCond .eq 20, 3) := by decide +kernel
theorem dX13_findLengths_185 : decode cX13_findLengths 185 = .ok (.aload_n 0, 1) := by decide +kernel
theorem dX13_findLengths_186 : decode cX13_findLengths 186 = .ok (.getfield 90, 3) := by decide +kernel
theorem dX13_findLengths_189 : decode cX13_findLengths 189 = .ok (.iload_n 1, 1) := by decide +kernel
theorem dX13_findLengths_190 : decode cX13_findLengths 190 = .ok (.aload_n 0, 1) := by decide +kernel
theorem dX13_findLengths_191 : decode cX13_findLengths 191 = .ok (.getfield 99, 3) := by decide +kernel
theorem dX13_findLengths_194 : decode cX13_findLengths 194 = .ok (.iload 8, 2) := by decide +kernel
theorem dX13_findLengths_196 : decode cX13_findLengths 196 = .ok (.iaload, 1) := by decide +kernel
theorem dX13_findLengths_197 : decode cX13_findLengths 197 = .ok (.iadd, 1) := by decide +kernel
theorem dX13_findLengths_198 : decode cX13_findLengths 198 = .ok (.iaload, 1) := by decide +kernel
theorem dX13_findLengths_199 : decode cX13_findLengths 199 = .ok (.goto 5, 3) := by decide +kernel
theorem dX13_findLengths_202 : decode cX13_findLengths 202 = .ok (.iload 10, 2) := by decide +kernel
theorem dX13_findLengths_204 : decode cX13_findLengths 204 = .ok (.iastore, 1) := by decide +kernel
theorem dX13_findLengths_205 : decode cX13_findLengths 205 = .ok (.aload_n 0, 1) := by decide +kernel
theorem dX13_findLengths_206 : decode cX13_findLengths 206 = .ok (.getfield 108, 3) := by decide +kernel
theorem dX13_findLengths_209 : decode cX13_findLengths 209 = .ok (.sipush 600, 3) := by decide +kernel
theorem dX13_findLengths_212 : decode cX13_findLengths 212 = .ok (.iload 6, 2) := by decide +kernel
theorem dX13_findLengths_214 : decode cX13_findLengths 214 = .ok (.imul, 1) := by decide +kernel
theorem dX13_findLengths_215 : decode cX13_findLengths 215 = .ok (.iload 5, 2) := by decide +kernel
theorem dX13_findLengths_217 : decode cX13_findLengths 217 = .ok (.iadd, 1) := by decide +kernel
theorem dX13_findLengths_218 : decode cX13_findLengths 218 = .ok (.iload 11, 2) := by decide +kernel
theorem dX13_findLengths_220 : decode cX13_findLengths 220 = .ok (.ifCond .eq 8, 3) := by decide +kernel
theorem dX13_findLengths_223 : decode cX13_findLengths 223 = .ok (.iload 8, 2) := by decide +kernel
theorem dX13_findLengths_225 : decode cX13_findLengths 225 = .ok (.goto 9, 3) := by decide +kernel
theorem dX13_findLengths_228 : decode cX13_findLengths 228 = .ok (.iconst (-1), 1) := by decide +kernel
theorem dX13_findLengths_229 : decode cX13_findLengths 229 = .ok (.iconst 2, 1) := by decide +kernel
theorem dX13_findLengths_230 : decode cX13_findLengths 230 = .ok (.iload 9, 2) := by decide +kernel
theorem dX13_findLengths_232 : decode cX13_findLengths 232 = .ok (.imul, 1) := by decide +kernel
theorem dX13_findLengths_233 : decode cX13_findLengths 233 = .ok (.isub, 1) := by decide +kernel
theorem dX13_findLengths_234 : decode cX13_findLengths 234 = .ok (.iastore, 1) := by decide +kernel
theorem dX13_findLengths_235 : decode cX13_findLengths 235 = .ok (.iload 11, 2) := by decide +kernel
theorem dX13_findLengths_237 : decode cX13_findLengths 237 = .ok (.ifCond .eq 10, 3) := by decide +kernel
theorem dX13_findLengths_240 : decode cX13_findLengths 240 = .ok (.iload 8, 2) := by decide +kernel
theorem dX13_findLengths_242 : decode cX13_findLengths 242 = .ok (.iconst 1, 1) := by decide +kernel
theorem dX13_findLengths_243 : decode cX13_findLengths 243 = .ok (.iadd, 1) := by decide +kernel
theorem dX13_findLengths_244 : decode cX13_findLengths 244 = .ok (.goto 5, 3) := by decide +kernel
theorem dX13_findLengths_247 : decode cX13_findLengths 247 = .ok (.iload 8, 2) := by decide +kernel
theorem dX13_findLengths_249 : decode cX13_findLengths 249 = .ok (.istore 8, 2) := by decide +kernel
theorem dX13_findLengths_251 : decode cX13_findLengths 251 = .ok (.iload 11, 2) := by decide +kernel
theorem dX13_findLengths_253 : decode cX13_findLengths 253 = .ok (.ifCond .eq 8, 3) := by decide +kernel
theorem dX13_findLengths_256 : decode cX13_findLengths 256 = .ok (.iload 9, 2) := by decide +kernel
theorem dX13_findLengths_258 : decode cX13_findLengths 258 = .ok (.goto 7, 3) := by decide +kernel
theorem dX13_findLengths_261 : decode cX13_findLengths 261 = .ok (.iload 9, 2) := by decide +kernel
theorem dX13_findLengths_263 : decode cX13_findLengths 263 = .ok (.iconst 1, 1) := by decide +kernel
theorem dX13_findLengths_264 : decode cX13_findLengths 264 = .ok (.iadd, 1) := by decide +kernel
theorem dX13_findLengths_265 : decode cX13_findLengths 265 = .ok (.istore 9, 2) := by decide +kernel
theorem dX13_findLengths_267 : decode cX13_findLengths 267 = .ok (.iinc 5 1, 3) := by decide +kernel
theorem dX13_findLengths_270 : decode cX13_findLengths 270 = .ok (.goto (-184), 3) := by decide +kernel
theorem dX13_findLengths_273 : decode cX13_findLengths 273 = .ok (.iconst 0, 1) := by decide +kernel
theorem dX13_findLengths_274 : decode cX13_findLengths 274 = .ok (.istore 10, 2) := by decide +kernel
theorem dX13_findLengths_276 : decode cX13_findLengths 276 = .ok (.iload 10, 2) := by decide +kernel
theorem dX13_findLengths_278 : decode cX13_findLengths 278 = .ok (.iload 5, 2) := by decide +kernel
theorem dX13_findLengths_280 : decode cX13_findLengths 280 = .ok (.if_icmp .ge 23, 3) := by decide +kernel
theorem dX13_findLengths_283 : decode cX13_findLengths 283 = .ok (.aload_n 0, 1) := by decide +kernel
theorem dX13_findLengths_284 : decode cX13_findLengths 284 = .ok (.getfield 105, 3) := by decide +kernel
theorem dX13_findLengths_287 : decode cX13_findLengths 287 = .ok (.iload 10, 2) := by decide +kernel
theorem dX13_findLengths_289 : decode cX13_findLengths 289 = .ok (.aload_n 0, 1) := by decide +kernel
theorem dX13_findLengths_290 : decode cX13_findLengths 290 = .ok (.getfield 102, 3) := by decide +kernel
theorem dX13_findLengths_293 : decode cX13_findLengths 293 = .ok (.iload 10, 2) := by decide +kernel
theorem dX13_findLengths_295 : decode cX13_findLengths 295 = .ok (.iaload, 1) := by decide +kernel
theorem dX13_findLengths_296 : decode cX13_findLengths 296 = .ok (.iastore, 1) := by decide +kernel
theorem dX13_findLengths_297 : decode cX13_findLengths 297 = .ok (.iinc 10 1, 3) := by decide +kernel
theorem dX13_findLengths_300 : decode cX13_findLengths 300 = .ok (.goto (-24), 3) := by decide +kernel
theorem dX13_findLengths_303 : decode cX13_findLengths 303 = .ok (.iinc 6 1, 3) := by decide +kernel
theorem dX13_findLengths_306 : decode cX13_findLengths 306 = .ok (.goto (-247), 3) := by decide +kernel
theorem dX13_findLengths_309 : decode cX13_findLengths 309 = .ok (.iconst 0, 1) := by decide +kernel
theorem dX13_findLengths_310 : decode cX13_findLengths 310 = .ok (.istore 6, 2) := by decide +kernel
theorem dX13_findLengths_312 : decode cX13_findLengths 312 = .ok (.iload 6, 2) := by decide +kernel
theorem dX13_findLengths_314 : decode cX13_findLengths 314 = .ok (.iconst 2, 1) := by decide +kernel
theorem dX13_findLengths_315 : decode cX13_findLengths 315 = .ok (.iload 4, 2) := by decide +kernel
theorem dX13_findLengths_317 : decode cX13_findLengths 317 = .ok (.imul, 1) := by decide +kernel
theorem dX13_findLengths_318 : decode cX13_findLengths 318 = .ok (.iconst 2, 1) := by decide +kernel
theorem dX13_findLengths_319 : decode cX13_findLengths 319 = .ok (.isub, 1) := by decide +kernel
theorem dX13_findLengths_320 : decode cX13_findLengths 320 = .ok (.if_icmp .ge 25, 3) := by decide +kernel
theorem dX13_findLengths_323 : decode cX13_findLengths 323 = .ok (.iload 4, 2) := by decide +kernel
theorem dX13_findLengths_325 : decode cX13_findLengths 325 = .ok (.iconst 1, 1) := by decide +kernel
theorem dX13_findLengths_326 : decode cX13_findLengths 326 = .ok (.if_icmp .le 19, 3) := by decide +kernel
theorem dX13_findLengths_329 : decode cX13_findLengths 329 = .ok (.aload_n 0, 1) := by decide +kernel
theorem dX13_findLengths_330 : decode cX13_findLengths 330 = .ok (.iload_n 1, 1) := by decide +kernel
theorem dX13_findLengths_331 : decode cX13_findLengths 331 = .ok (.iload_n 3, 1) := by decide +kernel
theorem dX13_findLengths_332 : decode cX13_findLengths 332 = .ok (.iconst 1, 1) := by decide +kernel
theorem dX13_findLengths_333 : decode cX13_findLengths 333 = .ok (.isub, 1) := by decide +kernel
theorem dX13_findLengths_334 : decode cX13_findLengths 334 = .ok (.iload 6, 2) := by decide +kernel
theorem dX13_findLengths_336 : decode cX13_findLengths 336 = .ok (.invokevirtual 191, 3) := by decide +kernel
theorem dX13_findLengths_339 : decode cX13_findLengths 339 = .ok (.iinc 6 1, 3) := by decide +kernel
theorem dX13_findLengths_342 : decode cX13_findLengths 342 = .ok (.goto (-30), 3) := by decide +kernel
theorem dX13_findLengths_345 : decode cX13_findLengths 345 = .ok (.return_, 1) := by decide +kernel
theorem dX13_takeItem_0 : decode cX13_takeItem 0 = .ok (.aload_n 0, 1) := by decide +kernel
theorem dX13_takeItem_1 : decode cX13_takeItem 1 = .ok (.getfield 108, 3) := by decide +kernel
theorem dX13_takeItem_4 : decode cX13_takeItem 4 = .ok (.sipush 600, 3) := by decide +kernel
theorem dX13_takeItem_7 : decode cX13_takeItem 7 = .ok (.iload_n 2, 1) := by decide +kernel
theorem dX13_takeItem_8 : decode cX13_takeItem 8 = .ok (.imul, 1) := by decide +kernel
theorem dX13_takeItem_9 : decode cX13_takeItem 9 = .ok (.iload_n 3, 1) := by decide +kernel
theorem dX13_takeItem_10 : decode cX13_takeItem 10 = .ok (.iadd, 1) := by decide +kernel
theorem dX13_takeItem_11 : decode cX13_takeItem 11 = .ok (.iaload, 1) := by decide +kernel
theorem dX13_takeItem_12 : decode cX13_takeItem 12 = .ok (.istore 4, 2) := by decide +kernel
theorem dX13_takeItem_14 : decode cX13_takeItem 14 = .ok (.iload 4, 2) := by decide +kernel
theorem dX13_takeItem_16 : decode cX13_takeItem 16 = .ok (.ifCond .lt 24, 3) := by decide +kernel
theorem dX13_takeItem_19 : decode cX13_takeItem 19 = .ok (.aload_n 0, 1) := by decide +kernel
theorem dX13_takeItem_20 : decode cX13_takeItem 20 = .ok (.getfield 93, 3) := by decide +kernel
theorem dX13_takeItem_23 : decode cX13_takeItem 23 = .ok (.iload_n 1, 1) := by decide +kernel
theorem dX13_takeItem_24 : decode cX13_takeItem 24 = .ok (.aload_n 0, 1) := by decide +kernel
theorem dX13_takeItem_25 : decode cX13_takeItem 25 = .ok (.getfield 99, 3) := by decide +kernel
theorem dX13_takeItem_28 : decode cX13_takeItem 28 = .ok (.iload 4, 2) := by decide +kernel
theorem dX13_takeItem_30 : decode cX13_takeItem 30 = .ok (.iaload, 1) := by decide +kernel
theorem dX13_takeItem_31 : decode cX13_takeItem 31 = .ok (.iadd, 1) := by decide +kernel
theorem dX13_takeItem_32 : decode cX13_takeItem 32 = .ok (.dup2, 1) := by decide +kernel
theorem dX13_takeItem_33 : decode cX13_takeItem 33 = .ok (.iaload, 1) := by decide +kernel
theorem dX13_takeItem_34 : decode cX13_takeItem 34 = .ok (.iconst 1, 1) := by decide +kernel
theorem dX13_takeItem_35 : decode cX13_takeItem 35 = .ok (.iadd, 1) := by decide +kernel
theorem dX13_takeItem_36 : decode cX13_takeItem 36 = .ok (.iastore, 1) := by decide +kernel
theorem dX13_takeItem_37 : decode cX13_takeItem 37 = .ok (.goto 26, 3) := by decide +kernel
theorem dX13_takeItem_40 : decode cX13_takeItem 40 = .ok (.aload_n 0, 1) := by decide +kernel
theorem dX13_takeItem_41 : decode cX13_takeItem 41 = .ok (.iload_n 1, 1) := by decide +kernel
theorem dX13_takeItem_42 : decode cX13_takeItem 42 = .ok (.iload_n 2, 1) := by decide +kernel
theorem dX13_takeItem_43 : decode cX13_takeItem 43 = .ok (.iconst 1, 1) := by decide +kernel
theorem dX13_takeItem_44 : decode cX13_takeItem 44 = .ok (.isub, 1) := by decide +kernel
theorem dX13_takeItem_45 : decode cX13_takeItem 45 = .ok (.iconst (-1), 1) := by decide +kernel
theorem dX13_takeItem_46 : decode cX13_takeItem 46 = .ok (.iload 4, 2) := by decide +kernel
theorem dX13_takeItem_48 : decode cX13_takeItem 48 = .ok (.isub, 1) := by decide +kernel
theorem dX13_takeItem_49 : decode cX13_takeItem 49 = .ok (.invokevirtual 191, 3) := by decide +kernel
theorem dX13_takeItem_52 : decode cX13_takeItem 52 = .ok (.aload_n 0, 1) := by decide +kernel
theorem dX13_takeItem_53 : decode cX13_takeItem 53 = .ok (.iload_n 1, 1) := by decide +kernel
theorem dX13_takeItem_54 : decode cX13_takeItem 54 = .ok (.iload_n 2, 1) := by decide +kernel
theorem dX13_takeItem_55 : decode cX13_takeItem 55 = .ok (.iconst 1, 1) := by decide +kernel
theorem dX13_takeItem_56 : decode cX13_takeItem 56 = .ok (.isub, 1) := by decide +kernel
theorem dX13_takeItem_57 : decode cX13_takeItem 57 = .ok (.iload 4, 2) := by decide +kernel
theorem dX13_takeItem_59 : decode cX13_takeItem 59 = .ok (.ineg, 1) := by decide +kernel
theorem dX13_takeItem_60 : decode cX13_takeItem 60 = .ok (.invokevirtual 191, 3) := by decide +kernel
theorem dX13_takeItem_63 : decode cX13_takeItem 63 = .ok (.return_, 1) := by decide +kernel
theorem dX13_tell_0 : decode cX13_tell 0 = .ok (.aload_n 0, 1) := by decide +kernel
theorem dX13_tell_1 : decode cX13_tell 1 = .ok (.getfield 114, 3) := by decide +kernel
theorem dX13_tell_4 : decode cX13_tell 4 = .ok (.aload_n 0, 1) := by decide +kernel
theorem dX13_tell_5 : decode cX13_tell 5 = .ok (.getfield 195, 3) := by decide +kernel
theorem dX13_tell_8 : decode cX13_tell 8 = .ok (.iload_n 1, 1) := by decide +kernel
theorem dX13_tell_9 : decode cX13_tell 9 = .ok (.iastore, 1) := by decide +kernel
theorem dX13_tell_10 : decode cX13_tell 10 = .ok (.aload_n 0, 1) := by decide +kernel
theorem dX13_tell_11 : decode cX13_tell 11 = .ok (.getfield 117, 3) := by decide +kernel
theorem dX13_tell_14 : decode cX13_tell 14 = .ok (.aload_n 0, 1) := by decide +kernel
theorem dX13_tell_15 : decode cX13_tell 15 = .ok (.getfield 195, 3) := by decide +kernel
theorem dX13_tell_18 : decode cX13_tell 18 = .ok (.iload_n 2, 1) := by decide +kernel
theorem dX13_tell_19 : decode cX13_tell 19 = .ok (.iastore, 1) := by decide +kernel
theorem dX13_tell_20 : decode cX13_tell 20 = .ok (.aload_n 0, 1) := by decide +kernel
theorem dX13_tell_21 : decode cX13_tell 21 = .ok (.dup, 1) := by decide +kernel
theorem dX13_tell_22 : decode cX13_tell 22 = .ok (.getfield 195, 3) := by decide +kernel
theorem dX13_tell_25 : decode cX13_tell 25 = .ok (.iconst 1, 1) := by decide +kernel
theorem dX13_tell_26 : decode cX13_tell 26 = .ok (.iadd, 1) := by decide +kernel
theorem dX13_tell_27 : decode cX13_tell 27 = .ok (.putfield 195, 3) := by decide +kernel
theorem dX13_tell_30 : decode cX13_tell 30 = .ok (.aload_n 0, 1) := by decide +kernel
theorem dX13_tell_31 : decode cX13_tell 31 = .ok (.getfield 90, 3) := by decide +kernel
theorem dX13_tell_34 : decode cX13_tell 34 = .ok (.sipush 320, 3) := by decide +kernel
theorem dX13_tell_37 : decode cX13_tell 37 = .ok (.iload_n 1, 1) := by decide +kernel
theorem dX13_tell_38 : decode cX13_tell 38 = .ok (.iadd, 1) := by decide +kernel
theorem dX13_tell_39 : decode cX13_tell 39 = .ok (.dup2, 1) := by decide +kernel
theorem dX13_tell_40 : decode cX13_tell 40 = .ok (.iaload, 1) := by decide +kernel
theorem dX13_tell_41 : decode cX13_tell 41 = .ok (.iconst 1, 1) := by decide +kernel
theorem dX13_tell_42 : decode cX13_tell 42 = .ok (.iadd, 1) := by decide +kernel
theorem dX13_tell_43 : decode cX13_tell 43 = .ok (.iastore, 1) := by decide +kernel
theorem dX13_tell_44 : decode cX13_tell 44 = .ok (.return_, 1) := by decide +kernel
theorem dX13_tellRow_0 : decode cX13_tellRow 0 = .ok (.aload_n 0, 1) := by decide +kernel
theorem dX13_tellRow_1 : decode cX13_tellRow 1 = .ok (.iconst 0, 1) := by decide +kernel
theorem dX13_tellRow_2 : decode cX13_tellRow 2 = .ok (.putfield 195, 3) := by decide +kernel
theorem dX13_tellRow_5 : decode cX13_tellRow 5 = .ok (.iconst 0, 1) := by decide +kernel
theorem dX13_tellRow_6 : decode cX13_tellRow 6 = .ok (.istore_n 2, 1) := by decide +kernel
theorem dX13_tellRow_7 : decode cX13_tellRow 7 = .ok (.iload_n 2, 1) := by decide +kernel
theorem dX13_tellRow_8 : decode cX13_tellRow 8 = .ok (.iload_n 1, 1) := by decide +kernel
theorem dX13_tellRow_9 : decode cX13_tellRow 9 = .ok (.if_icmp .ge 184, 3) := by decide +kernel
theorem dX13_tellRow_12 : decode cX13_tellRow 12 = .ok (.aload_n 0, 1) := by decide +kernel
theorem dX13_tellRow_13 : decode cX13_tellRow 13 = .ok (.getfield 111, 3) := by decide +kernel
theorem dX13_tellRow_16 : decode cX13_tellRow 16 = .ok (.iload_n 2, 1) := by decide +kernel
theorem dX13_tellRow_17 : decode cX13_tellRow 17 = .ok (.iaload, 1) := by decide +kernel
theorem dX13_tellRow_18 : decode cX13_tellRow 18 = .ok (.istore_n 3, 1) := by decide +kernel
theorem dX13_tellRow_19 : decode cX13_tellRow 19 = .ok (.iconst 0, 1) := by decide +kernel
theorem dX13_tellRow_20 : decode cX13_tellRow 20 = .ok (.istore 4, 2) := by decide +kernel
theorem dX13_tellRow_22 : decode cX13_tellRow 22 = .ok (.iload_n 2, 1) := by decide +kernel
theorem dX13_tellRow_23 : decode cX13_tellRow 23 = .ok (.iload 4, 2) := by decide +kernel
theorem dX13_tellRow_25 : decode cX13_tellRow 25 = .ok (.iadd, 1) := by decide +kernel
theorem dX13_tellRow_26 : decode cX13_tellRow 26 = .ok (.iload_n 1, 1) := by decide +kernel
theorem dX13_tellRow_27 : decode cX13_tellRow 27 = .ok (.if_icmp .ge 22, 3) := by decide +kernel
theorem dX13_tellRow_30 : decode cX13_tellRow 30 = .ok (.aload_n 0, 1) := by decide +kernel
theorem dX13_tellRow_31 : decode cX13_tellRow 31 = .ok (.getfield 111, 3) := by decide +kernel
theorem dX13_tellRow_34 : decode cX13_tellRow 34 = .ok (.iload_n 2, 1) := by decide +kernel
theorem dX13_tellRow_35 : decode cX13_tellRow 35 = .ok (.iload 4, 2) := by decide +kernel
theorem dX13_tellRow_37 : decode cX13_tellRow 37 = .ok (.iadd, 1) := by decide +kernel
theorem dX13_tellRow_38 : decode cX13_tellRow 38 = .ok (.iaload, 1) := by decide +kernel
theorem dX13_tellRow_39 : decode cX13_tellRow 39 = .ok (.iload_n 3, 1) := by decide +kernel
theorem dX13_tellRow_40 : decode cX13_tellRow 40 = .ok (.if_icmp .ne 9, 3) := by decide +kernel
theorem dX13_tellRow_43 : decode cX13_tellRow 43 = .ok (.iinc 4 1, 3) := by decide +kernel
theorem dX13_tellRow_46 : decode cX13_tellRow 46 = .ok (.goto (-24), 3) := by decide +kernel
theorem dX13_tellRow_49 : decode cX13_tellRow 49 = .ok (.iload_n 2, 1) := by decide +kernel
theorem dX13_tellRow_50 : decode cX13_tellRow 50 = .ok (.iload 4, 2) := by decide +kernel
theorem dX13_tellRow_52 : decode cX13_tellRow 52 = .ok (.iadd, 1) := by decide +kernel
theorem dX13_tellRow_53 : decode cX13_tellRow 53 = .ok (.istore_n 2, 1) := by decide +kernel
theorem dX13_tellRow_54 : decode cX13_tellRow 54 = .ok (.iload_n 3, 1) := by decide +kernel
theorem dX13_tellRow_55 : decode cX13_tellRow 55 = .ok (.ifCond .le 12, 3) := by decide +kernel
theorem dX13_tellRow_58 : decode cX13_tellRow 58 = .ok (.aload_n 0, 1) := by decide +kernel
theorem dX13_tellRow_59 : decode cX13_tellRow 59 = .ok (.iload_n 3, 1) := by decide +kernel
theorem dX13_tellRow_60 : decode cX13_tellRow 60 = .ok (.iconst 0, 1) := by decide +kernel
theorem dX13_tellRow_61 : decode cX13_tellRow 61 = .ok (.invokevirtual 198, 3) := by decide +kernel
theorem dX13_tellRow_64 : decode cX13_tellRow 64 = .ok (.iinc 4 (-1), 3) := by decide +kernel
theorem dX13_tellRow_67 : decode cX13_tellRow 67 = .ok (.iload 4, 2) := by decide +kernel
theorem dX13_tellRow_69 : decode cX13_tellRow 69 = .ok (.iload_n 3, 1) := by decide +kernel
theorem dX13_tellRow_70 : decode cX13_tellRow 70 = .ok (.ifCond .le 7, 3) := by decide +kernel
theorem dX13_tellRow_73 : decode cX13_tellRow 73 = .ok (.iconst 3, 1) := by decide +kernel
theorem dX13_tellRow_74 : decode cX13_tellRow 74 = .ok (.goto 5, 3) := by decide +kernel
theorem dX13_tellRow_77 : decode cX13_tellRow 77 = .ok (.bipush 11, 2) := by decide +kernel
theorem dX13_tellRow_79 : decode cX13_tellRow 79 = .ok (.if_icmp .lt 71, 3) := by decide +kernel
theorem dX13_tellRow_82 : decode cX13_tellRow 82 = .ok (.iload_n 3, 1) := by decide +kernel
theorem dX13_tellRow_83 : decode cX13_tellRow 83 = .ok (.ifCond .le 8, 3) := by decide +kernel
theorem dX13_tellRow_86 : decode cX13_tellRow 86 = .ok (.bipush 6, 2) := by decide +kernel
theorem dX13_tellRow_88 : decode cX13_tellRow 88 = .ok (.goto 6, 3) := by decide +kernel
theorem dX13_tellRow_91 : decode cX13_tellRow 91 = .ok (.sipush 138, 3) := by decide +kernel
theorem dX13_tellRow_94 : decode cX13_tellRow 94 = .ok (.istore 5, 2) := by decide +kernel
theorem dX13_tellRow_96 : decode cX13_tellRow 96 = .ok (.iload 4, 2) := by decide +kernel
theorem dX13_tellRow_98 : decode cX13_tellRow 98 = .ok (.iload 5, 2) := by decide +kernel
theorem dX13_tellRow_100 : decode cX13_tellRow 100 = .ok (.if_icmp .ge 8, 3) := by decide +kernel
theorem dX13_tellRow_103 : decode cX13_tellRow 103 = .ok (.iload 4, 2) := by decide +kernel
theorem dX13_tellRow_105 : decode cX13_tellRow 105 = .ok (.goto 5, 3) := by decide +kernel
theorem dX13_tellRow_108 : decode cX13_tellRow 108 = .ok (.iload 5, 2) := by decide +kernel
theorem dX13_tellRow_110 : decode cX13_tellRow 110 = .ok (.istore 6, 2) := by decide +kernel
theorem dX13_tellRow_112 : decode cX13_tellRow 112 = .ok (.aload_n 0, 1) := by decide +kernel
theorem dX13_tellRow_113 : decode cX13_tellRow 113 = .ok (.iload_n 3, 1) := by decide +kernel
theorem dX13_tellRow_114 : decode cX13_tellRow 114 = .ok (.ifCond .le 8, 3) := by decide +kernel
theorem dX13_tellRow_117 : decode cX13_tellRow 117 = .ok (.bipush 16, 2) := by decide +kernel
theorem dX13_tellRow_119 : decode cX13_tellRow 119 = .ok (.goto 5, 3) := by decide +kernel
theorem dX13_tellRow_122 : decode cX13_tellRow 122 = .ok (.bipush 18, 2) := by decide +kernel
theorem dX13_tellRow_124 : decode cX13_tellRow 124 = .ok (.iload 6, 2) := by decide +kernel
theorem dX13_tellRow_126 : decode cX13_tellRow 126 = .ok (.iload_n 3, 1) := by decide +kernel
theorem dX13_tellRow_127 : decode cX13_tellRow 127 = .ok (.ifCond .le 7, 3) := by decide +kernel
theorem dX13_tellRow_130 : decode cX13_tellRow 130 = .ok (.iconst 3, 1) := by decide +kernel
theorem dX13_tellRow_131 : decode cX13_tellRow 131 = .ok (.goto 5, 3) := by decide +kernel
theorem dX13_tellRow_134 : decode cX13_tellRow 134 = .ok (.bipush 11, 2) := by decide +kernel
theorem dX13_tellRow_136 : decode cX13_tellRow 136 = .ok (.isub, 1) := by decide +kernel
theorem dX13_tellRow_137 : decode cX13_tellRow 137 = .ok (.invokevirtual 198, 3) := by decide +kernel
theorem dX13_tellRow_140 : decode cX13_tellRow 140 = .ok (.iload 4, 2) := by decide +kernel
theorem dX13_tellRow_142 : decode cX13_tellRow 142 = .ok (.iload 6, 2) := by decide +kernel
theorem dX13_tellRow_144 : decode cX13_tellRow 144 = .ok (.isub, 1) := by decide +kernel
theorem dX13_tellRow_145 : decode cX13_tellRow 145 = .ok (.istore 4, 2) := by decide +kernel
theorem dX13_tellRow_147 : decode cX13_tellRow 147 = .ok (.goto (-80), 3) := by decide +kernel
theorem dX13_tellRow_150 : decode cX13_tellRow 150 = .ok (.iload_n 3, 1) := by decide +kernel
theorem dX13_tellRow_151 : decode cX13_tellRow 151 = .ok (.ifCond .ne 22, 3) := by decide +kernel
theorem dX13_tellRow_154 : decode cX13_tellRow 154 = .ok (.iload 4, 2) := by decide +kernel
theorem dX13_tellRow_156 : decode cX13_tellRow 156 = .ok (.iconst 3, 1) := by decide +kernel
theorem dX13_tellRow_157 : decode cX13_tellRow 157 = .ok (.if_icmp .lt 16, 3) := by decide +kernel
theorem dX13_tellRow_160 : decode cX13_tellRow 160 = .ok (.aload_n 0, 1) := by decide +kernel
theorem dX13_tellRow_161 : decode cX13_tellRow 161 = .ok (.bipush 17, 2) := by decide +kernel
theorem dX13_tellRow_163 : decode cX13_tellRow 163 = .ok (.iload 4, 2) := by decide +kernel
theorem dX13_tellRow_165 : decode cX13_tellRow 165 = .ok (.iconst 3, 1) := by decide +kernel
theorem dX13_tellRow_166 : decode cX13_tellRow 166 = .ok (.isub, 1) := by decide +kernel
theorem dX13_tellRow_167 : decode cX13_tellRow 167 = .ok (.invokevirtual 198, 3) := by decide +kernel
theorem dX13_tellRow_170 : decode cX13_tellRow 170 = .ok (.iconst 0, 1) := by decide +kernel
theorem dX13_tellRow_171 : decode cX13_tellRow 171 = .ok (.istore 4, 2) := by decide +kernel
theorem dX13_tellRow_173 : decode cX13_tellRow 173 = .ok (.iload 4, 2) := by decide +kernel
theorem dX13_tellRow_175 : decode cX13_tellRow 175 = .ok (.ifCond .le 15, 3) := by decide +kernel
theorem dX13_tellRow_178 : decode cX13_tellRow 178 = .ok (.aload_n 0, 1) := by decide +kernel
theorem dX13_tellRow_179 : decode cX13_tellRow 179 = .ok (.iload_n 3, 1) := by decide +kernel
theorem dX13_tellRow_180 : decode cX13_tellRow 180 = .ok (.iconst 0, 1) := by decide +kernel
theorem dX13_tellRow_181 : decode cX13_tellRow 181 = .ok (.invokevirtual 198, 3) := by decide +kernel
theorem dX13_tellRow_184 : decode cX13_tellRow 184 = .ok (.iinc 4 (-1), 3) := by decide +kernel
theorem dX13_tellRow_187 : decode cX13_tellRow 187 = .ok (.goto (-14), 3) := by decide +kernel
theorem dX13_tellRow_190 : decode cX13_tellRow 190 = .ok (.goto (-183), 3) := by decide +kernel
theorem dX13_tellRow_193 : decode cX13_tellRow 193 = .ok (.return_, 1) := by decide +kernel
theorem dX13_stepBits_0 : decode cX13_stepBits 0 = .ok (.iload_n 0, 1) := by decide +kernel
theorem dX13_stepBits_1 : decode cX13_stepBits 1 = .ok (.bipush 16, 2) := by decide +kernel
theorem dX13_stepBits_3 : decode cX13_stepBits 3 = .ok (.if_icmp .ne 7, 3) := by decide +kernel
theorem dX13_stepBits_6 : decode cX13_stepBits 6 = .ok (.iconst 2, 1) := by decide +kernel
theorem dX13_stepBits_7 : decode cX13_stepBits 7 = .ok (.goto 25, 3) := by decide +kernel
theorem dX13_stepBits_10 : decode cX13_stepBits 10 = .ok (.iload_n 0, 1) := by decide +kernel
theorem dX13_stepBits_11 : decode cX13_stepBits 11 = .ok (.bipush 17, 2) := by decide +kernel
theorem dX13_stepBits_13 : decode cX13_stepBits 13 = .ok (.if_icmp .ne 7, 3) := by decide +kernel
theorem dX13_stepBits_16 : decode cX13_stepBits 16 = .ok (.iconst 3, 1) := by decide +kernel
theorem dX13_stepBits_17 : decode cX13_stepBits 17 = .ok (.goto 15, 3) := by decide +kernel
theorem dX13_stepBits_20 : decode cX13_stepBits 20 = .ok (.iload_n 0, 1) := by decide +kernel
theorem dX13_stepBits_21 : decode cX13_stepBits 21 = .ok (.bipush 18, 2) := by decide +kernel
theorem dX13_stepBits_23 : decode cX13_stepBits 23 = .ok (.if_icmp .ne 8, 3) := by decide +kernel
theorem dX13_stepBits_26 : decode cX13_stepBits 26 = .ok (.bipush 7, 2) := by decide +kernel
theorem dX13_stepBits_28 : decode cX13_stepBits 28 = .ok (.goto 4, 3) := by decide +kernel
theorem dX13_stepBits_31 : decode cX13_stepBits 31 = .ok (.iconst 0, 1) := by decide +kernel
theorem dX13_stepBits_32 : decode cX13_stepBits 32 = .ok (.ireturn, 1) := by decide +kernel
theorem dX13_needed_0 : decode cX13_needed 0 = .ok (.iload_n 2, 1) := by decide +kernel
theorem dX13_needed_1 : decode cX13_needed 1 = .ok (.istore 4, 2) := by decide +kernel
theorem dX13_needed_3 : decode cX13_needed 3 = .ok (.iload 4, 2) := by decide +kernel
theorem dX13_needed_5 : decode cX13_needed 5 = .ok (.iload_n 3, 1) := by decide +kernel
theorem dX13_needed_6 : decode cX13_needed 6 = .ok (.if_icmp .le 23, 3) := by decide +kernel
theorem dX13_needed_9 : decode cX13_needed 9 = .ok (.aload_n 0, 1) := by decide +kernel
theorem dX13_needed_10 : decode cX13_needed 10 = .ok (.getfield 93, 3) := by decide +kernel
theorem dX13_needed_13 : decode cX13_needed 13 = .ok (.iload_n 1, 1) := by decide +kernel
theorem dX13_needed_14 : decode cX13_needed 14 = .ok (.iload 4, 2) := by decide +kernel
theorem dX13_needed_16 : decode cX13_needed 16 = .ok (.iadd, 1) := by decide +kernel
theorem dX13_needed_17 : decode cX13_needed 17 = .ok (.iconst 1, 1) := by decide +kernel
theorem dX13_needed_18 : decode cX13_needed 18 = .ok (.isub, 1) := by decide +kernel
theorem dX13_needed_19 : decode cX13_needed 19 = .ok (.iaload, 1) := by decide +kernel
theorem dX13_needed_20 : decode cX13_needed 20 = .ok (.ifCond .ne 9, 3) := by decide +kernel
theorem dX13_needed_23 : decode cX13_needed 23 = .ok (.iinc 4 (-1), 3) := by decide +kernel
theorem dX13_needed_26 : decode cX13_needed 26 = .ok (.goto (-23), 3) := by decide +kernel
theorem dX13_needed_29 : decode cX13_needed 29 = .ok (.iload 4, 2) := by decide +kernel
theorem dX13_needed_31 : decode cX13_needed 31 = .ok (.ireturn, 1) := by decide +kernel
theorem dX13_bitsBy_0 : decode cX13_bitsBy 0 = .ok (.aload_n 1, 1) := by decide +kernel
theorem dX13_bitsBy_1 : decode cX13_bitsBy 1 = .ok (.sipush 256, 3) := by decide +kernel
theorem dX13_bitsBy_4 : decode cX13_bitsBy 4 = .ok (.iaload, 1) := by decide +kernel
theorem dX13_bitsBy_5 : decode cX13_bitsBy 5 = .ok (.istore_n 2, 1) := by decide +kernel
theorem dX13_bitsBy_6 : decode cX13_bitsBy 6 = .ok (.iconst 0, 1) := by decide +kernel
theorem dX13_bitsBy_7 : decode cX13_bitsBy 7 = .ok (.istore_n 3, 1) := by decide +kernel
theorem dX13_bitsBy_8 : decode cX13_bitsBy 8 = .ok (.iload_n 3, 1) := by decide +kernel
theorem dX13_bitsBy_9 : decode cX13_bitsBy 9 = .ok (.aload_n 0, 1) := by decide +kernel
theorem dX13_bitsBy_10 : decode cX13_bitsBy 10 = .ok (.getfield 178, 3) := by decide +kernel
theorem dX13_bitsBy_13 : decode cX13_bitsBy 13 = .ok (.if_icmp .ge 79, 3) := by decide +kernel
theorem dX13_bitsBy_16 : decode cX13_bitsBy 16 = .ok (.aload_n 0, 1) := by decide +kernel
theorem dX13_bitsBy_17 : decode cX13_bitsBy 17 = .ok (.getfield 84, 3) := by decide +kernel
theorem dX13_bitsBy_20 : decode cX13_bitsBy 20 = .ok (.iload_n 3, 1) := by decide +kernel
theorem dX13_bitsBy_21 : decode cX13_bitsBy 21 = .ok (.iaload, 1) := by decide +kernel
theorem dX13_bitsBy_22 : decode cX13_bitsBy 22 = .ok (.invokestatic 182, 3) := by decide +kernel
theorem dX13_bitsBy_25 : decode cX13_bitsBy 25 = .ok (.istore 4, 2) := by decide +kernel
theorem dX13_bitsBy_27 : decode cX13_bitsBy 27 = .ok (.aload_n 0, 1) := by decide +kernel
theorem dX13_bitsBy_28 : decode cX13_bitsBy 28 = .ok (.getfield 87, 3) := by decide +kernel
theorem dX13_bitsBy_31 : decode cX13_bitsBy 31 = .ok (.iload_n 3, 1) := by decide +kernel
theorem dX13_bitsBy_32 : decode cX13_bitsBy 32 = .ok (.iaload, 1) := by decide +kernel
theorem dX13_bitsBy_33 : decode cX13_bitsBy 33 = .ok (.invokestatic 185, 3) := by decide +kernel
theorem dX13_bitsBy_36 : decode cX13_bitsBy 36 = .ok (.istore 5, 2) := by decide +kernel
theorem dX13_bitsBy_38 : decode cX13_bitsBy 38 = .ok (.iload_n 2, 1) := by decide +kernel
theorem dX13_bitsBy_39 : decode cX13_bitsBy 39 = .ok (.aload_n 0, 1) := by decide +kernel
theorem dX13_bitsBy_40 : decode cX13_bitsBy 40 = .ok (.getfield 84, 3) := by decide +kernel
theorem dX13_bitsBy_43 : decode cX13_bitsBy 43 = .ok (.iload_n 3, 1) := by decide +kernel
theorem dX13_bitsBy_44 : decode cX13_bitsBy 44 = .ok (.iaload, 1) := by decide +kernel
theorem dX13_bitsBy_45 : decode cX13_bitsBy 45 = .ok (.ifCond .ne 14, 3) := by decide +kernel
theorem dX13_bitsBy_48 : decode cX13_bitsBy 48 = .ok (.aload_n 1, 1) := by decide +kernel
theorem dX13_bitsBy_49 : decode cX13_bitsBy 49 = .ok (.aload_n 0, 1) := by decide +kernel
theorem dX13_bitsBy_50 : decode cX13_bitsBy 50 = .ok (.getfield 87, 3) := by decide +kernel
theorem dX13_bitsBy_53 : decode cX13_bitsBy 53 = .ok (.iload_n 3, 1) := by decide +kernel
theorem dX13_bitsBy_54 : decode cX13_bitsBy 54 = .ok (.iaload, 1) := by decide +kernel
theorem dX13_bitsBy_55 : decode cX13_bitsBy 55 = .ok (.iaload, 1) := by decide +kernel
theorem dX13_bitsBy_56 : decode cX13_bitsBy 56 = .ok (.goto 28, 3) := by decide +kernel
theorem dX13_bitsBy_59 : decode cX13_bitsBy 59 = .ok (.aload_n 1, 1) := by decide +kernel
theorem dX13_bitsBy_60 : decode cX13_bitsBy 60 = .ok (.iload 4, 2) := by decide +kernel
theorem dX13_bitsBy_62 : decode cX13_bitsBy 62 = .ok (.iaload, 1) := by decide +kernel
theorem dX13_bitsBy_63 : decode cX13_bitsBy 63 = .ok (.iload 4, 2) := by decide +kernel
theorem dX13_bitsBy_65 : decode cX13_bitsBy 65 = .ok (.invokestatic 154, 3) := by decide +kernel
theorem dX13_bitsBy_68 : decode cX13_bitsBy 68 = .ok (.iadd, 1) := by decide +kernel
theorem dX13_bitsBy_69 : decode cX13_bitsBy 69 = .ok (.aload_n 1, 1) := by decide +kernel
theorem dX13_bitsBy_70 : decode cX13_bitsBy 70 = .ok (.sipush 288, 3) := by decide +kernel
theorem dX13_bitsBy_73 : decode cX13_bitsBy 73 = .ok (.iload 5, 2) := by decide +kernel
theorem dX13_bitsBy_75 : decode cX13_bitsBy 75 = .ok (.iadd, 1) := by decide +kernel
theorem dX13_bitsBy_76 : decode cX13_bitsBy 76 = .ok (.iaload, 1) := by decide +kernel
theorem dX13_bitsBy_77 : decode cX13_bitsBy 77 = .ok (.iadd, 1) := by decide +kernel
theorem dX13_bitsBy_78 : decode cX13_bitsBy 78 = .ok (.iload 5, 2) := by decide +kernel
theorem dX13_bitsBy_80 : decode cX13_bitsBy 80 = .ok (.invokestatic 158, 3) := by decide +kernel
theorem dX13_bitsBy_83 : decode cX13_bitsBy 83 = .ok (.iadd, 1) := by decide +kernel
theorem dX13_bitsBy_84 : decode cX13_bitsBy 84 = .ok (.iadd, 1) := by decide +kernel
theorem dX13_bitsBy_85 : decode cX13_bitsBy 85 = .ok (.istore_n 2, 1) := by decide +kernel
theorem dX13_bitsBy_86 : decode cX13_bitsBy 86 = .ok (.iinc 3 1, 3) := by decide +kernel
theorem dX13_bitsBy_89 : decode cX13_bitsBy 89 = .ok (.goto (-81), 3) := by decide +kernel
theorem dX13_bitsBy_92 : decode cX13_bitsBy 92 = .ok (.iload_n 2, 1) := by decide +kernel
theorem dX13_bitsBy_93 : decode cX13_bitsBy 93 = .ok (.ireturn, 1) := by decide +kernel
theorem dX13_writeTokens_0 : decode cX13_writeTokens 0 = .ok (.aload_n 0, 1) := by decide +kernel
theorem dX13_writeTokens_1 : decode cX13_writeTokens 1 = .ok (.aload_n 1, 1) := by decide +kernel
theorem dX13_writeTokens_2 : decode cX13_writeTokens 2 = .ok (.iconst 0, 1) := by decide +kernel
theorem dX13_writeTokens_3 : decode cX13_writeTokens 3 = .ok (.sipush 288, 3) := by decide +kernel
theorem dX13_writeTokens_6 : decode cX13_writeTokens 6 = .ok (.invokevirtual 202, 3) := by decide +kernel
theorem dX13_writeTokens_9 : decode cX13_writeTokens 9 = .ok (.aload_n 0, 1) := by decide +kernel
theorem dX13_writeTokens_10 : decode cX13_writeTokens 10 = .ok (.aload_n 1, 1) := by decide +kernel
theorem dX13_writeTokens_11 : decode cX13_writeTokens 11 = .ok (.sipush 288, 3) := by decide +kernel
theorem dX13_writeTokens_14 : decode cX13_writeTokens 14 = .ok (.bipush 32, 2) := by decide +kernel
theorem dX13_writeTokens_16 : decode cX13_writeTokens 16 = .ok (.invokevirtual 202, 3) := by decide +kernel
theorem dX13_writeTokens_19 : decode cX13_writeTokens 19 = .ok (.iconst 0, 1) := by decide +kernel
theorem dX13_writeTokens_20 : decode cX13_writeTokens 20 = .ok (.istore_n 2, 1) := by decide +kernel
theorem dX13_writeTokens_21 : decode cX13_writeTokens 21 = .ok (.iload_n 2, 1) := by decide +kernel
theorem dX13_writeTokens_22 : decode cX13_writeTokens 22 = .ok (.aload_n 0, 1) := by decide +kernel
theorem dX13_writeTokens_23 : decode cX13_writeTokens 23 = .ok (.getfield 178, 3) := by decide +kernel
theorem dX13_writeTokens_26 : decode cX13_writeTokens 26 = .ok (.if_icmp .ge 114, 3) := by decide +kernel
theorem dX13_writeTokens_29 : decode cX13_writeTokens 29 = .ok (.aload_n 0, 1) := by decide +kernel
theorem dX13_writeTokens_30 : decode cX13_writeTokens 30 = .ok (.getfield 84, 3) := by decide +kernel
theorem dX13_writeTokens_33 : decode cX13_writeTokens 33 = .ok (.iload_n 2, 1) := by decide +kernel
theorem dX13_writeTokens_34 : decode cX13_writeTokens 34 = .ok (.iaload, 1) := by decide +kernel
theorem dX13_writeTokens_35 : decode cX13_writeTokens 35 = .ok (.ifCond .ne 12, 3) := by decide +kernel
theorem dX13_writeTokens_38 : decode cX13_writeTokens 38 = .ok (.aload_n 0, 1) := by decide +kernel
theorem dX13_writeTokens_39 : decode cX13_writeTokens 39 = .ok (.getfield 87, 3) := by decide +kernel
theorem dX13_writeTokens_42 : decode cX13_writeTokens 42 = .ok (.iload_n 2, 1) := by decide +kernel
theorem dX13_writeTokens_43 : decode cX13_writeTokens 43 = .ok (.iaload, 1) := by decide +kernel
theorem dX13_writeTokens_44 : decode cX13_writeTokens 44 = .ok (.goto 12, 3) := by decide +kernel
theorem dX13_writeTokens_47 : decode cX13_writeTokens 47 = .ok (.aload_n 0, 1) := by decide +kernel
theorem dX13_writeTokens_48 : decode cX13_writeTokens 48 = .ok (.getfield 84, 3) := by decide +kernel
theorem dX13_writeTokens_51 : decode cX13_writeTokens 51 = .ok (.iload_n 2, 1) := by decide +kernel
theorem dX13_writeTokens_52 : decode cX13_writeTokens 52 = .ok (.iaload, 1) := by decide +kernel
theorem dX13_writeTokens_53 : decode cX13_writeTokens 53 = .ok (.invokestatic 182, 3) := by decide +kernel
theorem dX13_writeTokens_56 : decode cX13_writeTokens 56 = .ok (.istore_n 3, 1) := by decide +kernel
theorem dX13_writeTokens_57 : decode cX13_writeTokens 57 = .ok (.aload_n 0, 1) := by decide +kernel
theorem dX13_writeTokens_58 : decode cX13_writeTokens 58 = .ok (.aload_n 1, 1) := by decide +kernel
theorem dX13_writeTokens_59 : decode cX13_writeTokens 59 = .ok (.iload_n 3, 1) := by decide +kernel
theorem dX13_writeTokens_60 : decode cX13_writeTokens 60 = .ok (.invokevirtual 206, 3) := by decide +kernel
theorem dX13_writeTokens_63 : decode cX13_writeTokens 63 = .ok (.aload_n 0, 1) := by decide +kernel
theorem dX13_writeTokens_64 : decode cX13_writeTokens 64 = .ok (.getfield 84, 3) := by decide +kernel
theorem dX13_writeTokens_67 : decode cX13_writeTokens 67 = .ok (.iload_n 2, 1) := by decide +kernel
theorem dX13_writeTokens_68 : decode cX13_writeTokens 68 = .ok (.iaload, 1) := by decide +kernel
theorem dX13_writeTokens_69 : decode cX13_writeTokens 69 = .ok (.ifCond .le 65, 3) := by decide +kernel
theorem dX13_writeTokens_72 : decode cX13_writeTokens 72 = .ok (.aload_n 0, 1) := by decide +kernel
theorem dX13_writeTokens_73 : decode cX13_writeTokens 73 = .ok (.getfield 87, 3) := by decide +kernel
theorem dX13_writeTokens_76 : decode cX13_writeTokens 76 = .ok (.iload_n 2, 1) := by decide +kernel
theorem dX13_writeTokens_77 : decode cX13_writeTokens 77 = .ok (.iaload, 1) := by decide +kernel
theorem dX13_writeTokens_78 : decode cX13_writeTokens 78 = .ok (.invokestatic 185, 3) := by decide +kernel
theorem dX13_writeTokens_81 : decode cX13_writeTokens 81 = .ok (.istore 4, 2) := by decide +kernel
theorem dX13_writeTokens_83 : decode cX13_writeTokens 83 = .ok (.aload_n 0, 1) := by decide +kernel
theorem dX13_writeTokens_84 : decode cX13_writeTokens 84 = .ok (.aload_n 0, 1) := by decide +kernel
theorem dX13_writeTokens_85 : decode cX13_writeTokens 85 = .ok (.getfield 84, 3) := by decide +kernel
theorem dX13_writeTokens_88 : decode cX13_writeTokens 88 = .ok (.iload_n 2, 1) := by decide +kernel
theorem dX13_writeTokens_89 : decode cX13_writeTokens 89 = .ok (.iaload, 1) := by decide +kernel
theorem dX13_writeTokens_90 : decode cX13_writeTokens 90 = .ok (.iload_n 3, 1) := by decide +kernel
theorem dX13_writeTokens_91 : decode cX13_writeTokens 91 = .ok (.invokestatic 161, 3) := by decide +kernel
theorem dX13_writeTokens_94 : decode cX13_writeTokens 94 = .ok (.isub, 1) := by decide +kernel
theorem dX13_writeTokens_95 : decode cX13_writeTokens 95 = .ok (.iload_n 3, 1) := by decide +kernel
theorem dX13_writeTokens_96 : decode cX13_writeTokens 96 = .ok (.invokestatic 154, 3) := by decide +kernel
theorem dX13_writeTokens_99 : decode cX13_writeTokens 99 = .ok (.invokevirtual 210, 3) := by decide +kernel
theorem dX13_writeTokens_102 : decode cX13_writeTokens 102 = .ok (.aload_n 0, 1) := by decide +kernel
theorem dX13_writeTokens_103 : decode cX13_writeTokens 103 = .ok (.aload_n 1, 1) := by decide +kernel
theorem dX13_writeTokens_104 : decode cX13_writeTokens 104 = .ok (.sipush 288, 3) := by decide +kernel
theorem dX13_writeTokens_107 : decode cX13_writeTokens 107 = .ok (.iload 4, 2) := by decide +kernel
theorem dX13_writeTokens_109 : decode cX13_writeTokens 109 = .ok (.iadd, 1) := by decide +kernel
theorem dX13_writeTokens_110 : decode cX13_writeTokens 110 = .ok (.invokevirtual 206, 3) := by decide +kernel
theorem dX13_writeTokens_113 : decode cX13_writeTokens 113 = .ok (.aload_n 0, 1) := by decide +kernel
theorem dX13_writeTokens_114 : decode cX13_writeTokens 114 = .ok (.aload_n 0, 1) := by decide +kernel
theorem dX13_writeTokens_115 : decode cX13_writeTokens 115 = .ok (.getfield 87, 3) := by decide +kernel
theorem dX13_writeTokens_118 : decode cX13_writeTokens 118 = .ok (.iload_n 2, 1) := by decide +kernel
theorem dX13_writeTokens_119 : decode cX13_writeTokens 119 = .ok (.iaload, 1) := by decide +kernel
theorem dX13_writeTokens_120 : decode cX13_writeTokens 120 = .ok (.iload 4, 2) := by decide +kernel
theorem dX13_writeTokens_122 : decode cX13_writeTokens 122 = .ok (.invokestatic 164, 3) := by decide +kernel
theorem dX13_writeTokens_125 : decode cX13_writeTokens 125 = .ok (.isub, 1) := by decide +kernel
theorem dX13_writeTokens_126 : decode cX13_writeTokens 126 = .ok (.iload 4, 2) := by decide +kernel
theorem dX13_writeTokens_128 : decode cX13_writeTokens 128 = .ok (.invokestatic 158, 3) := by decide +kernel
theorem dX13_writeTokens_131 : decode cX13_writeTokens 131 = .ok (.invokevirtual 210, 3) := by decide +kernel
theorem dX13_writeTokens_134 : decode cX13_writeTokens 134 = .ok (.iinc 2 1, 3) := by decide +kernel
theorem dX13_writeTokens_137 : decode cX13_writeTokens 137 = .ok (.goto (-116), 3) := by decide +kernel
theorem dX13_writeTokens_140 : decode cX13_writeTokens 140 = .ok (.aload_n 0, 1) := by decide +kernel
theorem dX13_writeTokens_141 : decode cX13_writeTokens 141 = .ok (.aload_n 1, 1) := by decide +kernel
theorem dX13_writeTokens_142 : decode cX13_writeTokens 142 = .ok (.sipush 256, 3) := by decide +kernel
theorem dX13_writeTokens_145 : decode cX13_writeTokens 145 = .ok (.invokevirtual 206, 3) := by decide +kernel
theorem dX13_writeTokens_148 : decode cX13_writeTokens 148 = .ok (.return_, 1) := by decide +kernel
theorem dX13_makeFixed_0 : decode cX13_makeFixed 0 = .ok (.iconst 0, 1) := by decide +kernel
theorem dX13_makeFixed_1 : decode cX13_makeFixed 1 = .ok (.istore_n 1, 1) := by decide +kernel
theorem dX13_makeFixed_2 : decode cX13_makeFixed 2 = .ok (.iload_n 1, 1) := by decide +kernel
theorem dX13_makeFixed_3 : decode cX13_makeFixed 3 = .ok (.sipush 320, 3) := by decide +kernel
theorem dX13_makeFixed_6 : decode cX13_makeFixed 6 = .ok (.if_icmp .ge 64, 3) := by decide +kernel
theorem dX13_makeFixed_9 : decode cX13_makeFixed 9 = .ok (.aload_n 0, 1) := by decide +kernel
theorem dX13_makeFixed_10 : decode cX13_makeFixed 10 = .ok (.getfield 96, 3) := by decide +kernel
theorem dX13_makeFixed_13 : decode cX13_makeFixed 13 = .ok (.iload_n 1, 1) := by decide +kernel
theorem dX13_makeFixed_14 : decode cX13_makeFixed 14 = .ok (.iload_n 1, 1) := by decide +kernel
theorem dX13_makeFixed_15 : decode cX13_makeFixed 15 = .ok (.sipush 144, 3) := by decide +kernel
theorem dX13_makeFixed_18 : decode cX13_makeFixed 18 = .ok (.if_icmp .ge 8, 3) := by decide +kernel
theorem dX13_makeFixed_21 : decode cX13_makeFixed 21 = .ok (.bipush 8, 2) := by decide +kernel
theorem dX13_makeFixed_23 : decode cX13_makeFixed 23 = .ok (.goto 40, 3) := by decide +kernel
theorem dX13_makeFixed_26 : decode cX13_makeFixed 26 = .ok (.iload_n 1, 1) := by decide +kernel
theorem dX13_makeFixed_27 : decode cX13_makeFixed 27 = .ok (.sipush 256, 3) := by decide +kernel
theorem dX13_makeFixed_30 : decode cX13_makeFixed 30 = .ok (.if_icmp .ge 8, 3) := by decide +kernel
theorem dX13_makeFixed_33 : decode cX13_makeFixed 33 = .ok (.bipush 9, 2) := by decide +kernel
theorem dX13_makeFixed_35 : decode cX13_makeFixed 35 = .ok (.goto 28, 3) := by decide +kernel
theorem dX13_makeFixed_38 : decode cX13_makeFixed 38 = .ok (.iload_n 1, 1) := by decide +kernel
theorem dX13_makeFixed_39 : decode cX13_makeFixed 39 = .ok (.sipush 280, 3) := by decide +kernel
theorem dX13_makeFixed_42 : decode cX13_makeFixed 42 = .ok (.if_icmp .ge 8, 3) := by decide +kernel
theorem dX13_makeFixed_45 : decode cX13_makeFixed 45 = .ok (.bipush 7, 2) := by decide +kernel
theorem dX13_makeFixed_47 : decode cX13_makeFixed 47 = .ok (.goto 16, 3) := by decide +kernel
theorem dX13_makeFixed_50 : decode cX13_makeFixed 50 = .ok (.iload_n 1, 1) := by decide +kernel
theorem dX13_makeFixed_51 : decode cX13_makeFixed 51 = .ok (.sipush 288, 3) := by decide +kernel
theorem dX13_makeFixed_54 : decode cX13_makeFixed 54 = .ok (.if_icmp .ge 8, 3) := by decide +kernel
theorem dX13_makeFixed_57 : decode cX13_makeFixed 57 = .ok (.bipush 8, 2) := by decide +kernel
theorem dX13_makeFixed_59 : decode cX13_makeFixed 59 = .ok (.goto 4, 3) := by decide +kernel
theorem dX13_makeFixed_62 : decode cX13_makeFixed 62 = .ok (.iconst 5, 1) := by decide +kernel
theorem dX13_makeFixed_63 : decode cX13_makeFixed 63 = .ok (.iastore, 1) := by decide +kernel
theorem dX13_makeFixed_64 : decode cX13_makeFixed 64 = .ok (.iinc 1 1, 3) := by decide +kernel
theorem dX13_makeFixed_67 : decode cX13_makeFixed 67 = .ok (.goto (-65), 3) := by decide +kernel
theorem dX13_makeFixed_70 : decode cX13_makeFixed 70 = .ok (.return_, 1) := by decide +kernel
theorem dX13_packPart_0 : decode cX13_packPart 0 = .ok (.aload_n 0, 1) := by decide +kernel
theorem dX13_packPart_1 : decode cX13_packPart 1 = .ok (.aload_n 1, 1) := by decide +kernel
theorem dX13_packPart_2 : decode cX13_packPart 2 = .ok (.iload_n 2, 1) := by decide +kernel
theorem dX13_packPart_3 : decode cX13_packPart 3 = .ok (.iload_n 3, 1) := by decide +kernel
theorem dX13_packPart_4 : decode cX13_packPart 4 = .ok (.iload 4, 2) := by decide +kernel
theorem dX13_packPart_6 : decode cX13_packPart 6 = .ok (.invokevirtual 213, 3) := by decide +kernel
theorem dX13_packPart_9 : decode cX13_packPart 9 = .ok (.aload_n 0, 1) := by decide +kernel
theorem dX13_packPart_10 : decode cX13_packPart 10 = .ok (.invokevirtual 217, 3) := by decide +kernel
theorem dX13_packPart_13 : decode cX13_packPart 13 = .ok (.aload_n 0, 1) := by decide +kernel
theorem dX13_packPart_14 : decode cX13_packPart 14 = .ok (.iconst 0, 1) := by decide +kernel
theorem dX13_packPart_15 : decode cX13_packPart 15 = .ok (.sipush 288, 3) := by decide +kernel
theorem dX13_packPart_18 : decode cX13_packPart 18 = .ok (.bipush 15, 2) := by decide +kernel
theorem dX13_packPart_20 : decode cX13_packPart 20 = .ok (.invokevirtual 220, 3) := by decide +kernel
theorem dX13_packPart_23 : decode cX13_packPart 23 = .ok (.aload_n 0, 1) := by decide +kernel
theorem dX13_packPart_24 : decode cX13_packPart 24 = .ok (.sipush 288, 3) := by decide +kernel
theorem dX13_packPart_27 : decode cX13_packPart 27 = .ok (.bipush 32, 2) := by decide +kernel
theorem dX13_packPart_29 : decode cX13_packPart 29 = .ok (.bipush 15, 2) := by decide +kernel
theorem dX13_packPart_31 : decode cX13_packPart 31 = .ok (.invokevirtual 220, 3) := by decide +kernel
theorem dX13_packPart_34 : decode cX13_packPart 34 = .ok (.aload_n 0, 1) := by decide +kernel
theorem dX13_packPart_35 : decode cX13_packPart 35 = .ok (.iconst 0, 1) := by decide +kernel
theorem dX13_packPart_36 : decode cX13_packPart 36 = .ok (.sipush 286, 3) := by decide +kernel
theorem dX13_packPart_39 : decode cX13_packPart 39 = .ok (.sipush 257, 3) := by decide +kernel
theorem dX13_packPart_42 : decode cX13_packPart 42 = .ok (.invokevirtual 223, 3) := by decide +kernel
theorem dX13_packPart_45 : decode cX13_packPart 45 = .ok (.istore 6, 2) := by decide +kernel
theorem dX13_packPart_47 : decode cX13_packPart 47 = .ok (.aload_n 0, 1) := by decide +kernel
theorem dX13_packPart_48 : decode cX13_packPart 48 = .ok (.sipush 288, 3) := by decide +kernel
theorem dX13_packPart_51 : decode cX13_packPart 51 = .ok (.bipush 30, 2) := by decide +kernel
theorem dX13_packPart_53 : decode cX13_packPart 53 = .ok (.iconst 1, 1) := by decide +kernel
theorem dX13_packPart_54 : decode cX13_packPart 54 = .ok (.invokevirtual 223, 3) := by decide +kernel
theorem dX13_packPart_57 : decode cX13_packPart 57 = .ok (.istore 7, 2) := by decide +kernel
theorem dX13_packPart_59 : decode cX13_packPart 59 = .ok (.iconst 0, 1) := by decide +kernel
theorem dX13_packPart_60 : decode cX13_packPart 60 = .ok (.istore 8, 2) := by decide +kernel
theorem dX13_packPart_62 : decode cX13_packPart 62 = .ok (.iload 8, 2) := by decide +kernel
theorem dX13_packPart_64 : decode cX13_packPart 64 = .ok (.iload 6, 2) := by decide +kernel
theorem dX13_packPart_66 : decode cX13_packPart 66 = .ok (.iload 7, 2) := by decide +kernel
theorem dX13_packPart_68 : decode cX13_packPart 68 = .ok (.iadd, 1) := by decide +kernel
theorem dX13_packPart_69 : decode cX13_packPart 69 = .ok (.if_icmp .ge 47, 3) := by decide +kernel
theorem dX13_packPart_72 : decode cX13_packPart 72 = .ok (.aload_n 0, 1) := by decide +kernel
theorem dX13_packPart_73 : decode cX13_packPart 73 = .ok (.getfield 111, 3) := by decide +kernel
theorem dX13_packPart_76 : decode cX13_packPart 76 = .ok (.iload 8, 2) := by decide +kernel
theorem dX13_packPart_78 : decode cX13_packPart 78 = .ok (.iload 8, 2) := by decide +kernel
theorem dX13_packPart_80 : decode cX13_packPart 80 = .ok (.iload 6, 2) := by decide +kernel
theorem dX13_packPart_82 : decode cX13_packPart 82 = .ok (.if_icmp .ge 13, 3) := by decide +kernel
theorem dX13_packPart_85 : decode cX13_packPart 85 = .ok (.aload_n 0, 1) := by decide +kernel
theorem dX13_packPart_86 : decode cX13_packPart 86 = .ok (.getfield 93, 3) := by decide +kernel
theorem dX13_packPart_89 : decode cX13_packPart 89 = .ok (.iload 8, 2) := by decide +kernel
theorem dX13_packPart_91 : decode cX13_packPart 91 = .ok (.iaload, 1) := by decide +kernel
theorem dX13_packPart_92 : decode cX13_packPart 92 = .ok (.goto 17, 3) := by decide +kernel
theorem dX13_packPart_95 : decode cX13_packPart 95 = .ok (.aload_n 0, 1) := by decide +kernel
theorem dX13_packPart_96 : decode cX13_packPart 96 = .ok (.getfield 93, 3) := by decide +kernel
theorem dX13_packPart_99 : decode cX13_packPart 99 = .ok (.sipush 288, 3) := by decide +kernel
theorem dX13_packPart_102 : decode cX13_packPart 102 = .ok (.iload 8, 2) := by decide +kernel
theorem dX13_packPart_104 : decode cX13_packPart 104 = .ok (.iadd, 1) := by decide +kernel
theorem dX13_packPart_105 : decode cX13_packPart 105 = .ok (.iload 6, 2) := by decide +kernel
theorem dX13_packPart_107 : decode cX13_packPart 107 = .ok (.isub, 1) := by decide +kernel
theorem dX13_packPart_108 : decode cX13_packPart 108 = .ok (.iaload, 1) := by decide +kernel
theorem dX13_packPart_109 : decode cX13_packPart 109 = .ok (.iastore, 1) := by decide +kernel
theorem dX13_packPart_110 : decode cX13_packPart 110 = .ok (.iinc 8 1, 3) := by decide +kernel
theorem dX13_packPart_113 : decode cX13_packPart 113 = .ok (.goto (-51), 3) := by decide +kernel
theorem dX13_packPart_116 : decode cX13_packPart 116 = .ok (.aload_n 0, 1) := by decide +kernel
theorem dX13_packPart_117 : decode cX13_packPart 117 = .ok (.iload 6, 2) := by decide +kernel
theorem dX13_packPart_119 : decode cX13_packPart 119 = .ok (.iload 7, 2) := by decide +kernel
theorem dX13_packPart_121 : decode cX13_packPart 121 = .ok (.iadd, 1) := by decide +kernel
theorem dX13_packPart_122 : decode cX13_packPart 122 = .ok (.invokevirtual 227, 3) := by decide +kernel
theorem dX13_packPart_125 : decode cX13_packPart 125 = .ok (.aload_n 0, 1) := by decide +kernel
theorem dX13_packPart_126 : decode cX13_packPart 126 = .ok (.sipush 320, 3) := by decide +kernel
theorem dX13_packPart_129 : decode cX13_packPart 129 = .ok (.bipush 19, 2) := by decide +kernel
theorem dX13_packPart_131 : decode cX13_packPart 131 = .ok (.bipush 7, 2) := by decide +kernel
theorem dX13_packPart_133 : decode cX13_packPart 133 = .ok (.invokevirtual 220, 3) := by decide +kernel
theorem dX13_packPart_136 : decode cX13_packPart 136 = .ok (.bipush 19, 2) := by decide +kernel
theorem dX13_packPart_138 : decode cX13_packPart 138 = .ok (.istore 8, 2) := by decide +kernel
theorem dX13_packPart_140 : decode cX13_packPart 140 = .ok (.iload 8, 2) := by decide +kernel
theorem dX13_packPart_142 : decode cX13_packPart 142 = .ok (.iconst 4, 1) := by decide +kernel
theorem dX13_packPart_143 : decode cX13_packPart 143 = .ok (.if_icmp .le 28, 3) := by decide +kernel
theorem dX13_packPart_146 : decode cX13_packPart 146 = .ok (.aload_n 0, 1) := by decide +kernel
theorem dX13_packPart_147 : decode cX13_packPart 147 = .ok (.getfield 93, 3) := by decide +kernel
theorem dX13_packPart_150 : decode cX13_packPart 150 = .ok (.sipush 320, 3) := by decide +kernel
theorem dX13_packPart_153 : decode cX13_packPart 153 = .ok (.iload 8, 2) := by decide +kernel
theorem dX13_packPart_155 : decode cX13_packPart 155 = .ok (.iconst 1, 1) := by decide +kernel
theorem dX13_packPart_156 : decode cX13_packPart 156 = .ok (.isub, 1) := by decide +kernel
theorem dX13_packPart_157 : decode cX13_packPart 157 = .ok (.invokestatic 230, 3) := by decide +kernel
theorem dX13_packPart_160 : decode cX13_packPart 160 = .ok (.iadd, 1) := by decide +kernel
theorem dX13_packPart_161 : decode cX13_packPart 161 = .ok (.iaload, 1) := by decide +kernel
theorem dX13_packPart_162 : decode cX13_packPart 162 = .ok (.ifCond .ne 9, 3) := by decide +kernel
theorem dX13_packPart_165 : decode cX13_packPart 165 = .ok (.iinc 8 (-1), 3) := by decide +kernel
theorem dX13_packPart_168 : decode cX13_packPart 168 = .ok (.goto (-28), 3) := by decide +kernel
theorem dX13_packPart_171 : decode cX13_packPart 171 = .ok (.bipush 17, 2) := by decide +kernel
theorem dX13_packPart_173 : decode cX13_packPart 173 = .ok (.iconst 3, 1) := by decide +kernel
theorem dX13_packPart_174 : decode cX13_packPart 174 = .ok (.iload 8, 2) := by decide +kernel
theorem dX13_packPart_176 : decode cX13_packPart 176 = .ok (.imul, 1) := by decide +kernel
theorem dX13_packPart_177 : decode cX13_packPart 177 = .ok (.iadd, 1) := by decide +kernel
theorem dX13_packPart_178 : decode cX13_packPart 178 = .ok (.aload_n 0, 1) := by decide +kernel
theorem dX13_packPart_179 : decode cX13_packPart 179 = .ok (.aload_n 0, 1) := by decide +kernel
theorem dX13_packPart_180 : decode cX13_packPart 180 = .ok (.getfield 93, 3) := by decide +kernel
theorem dX13_packPart_183 : decode cX13_packPart 183 = .ok (.invokevirtual 233, 3) := by decide +kernel
theorem dX13_packPart_186 : decode cX13_packPart 186 = .ok (.iadd, 1) := by decide +kernel
theorem dX13_packPart_187 : decode cX13_packPart 187 = .ok (.istore 9, 2) := by decide +kernel
theorem dX13_packPart_189 : decode cX13_packPart 189 = .ok (.iconst 0, 1) := by decide +kernel
theorem dX13_packPart_190 : decode cX13_packPart 190 = .ok (.istore 10, 2) := by decide +kernel
theorem dX13_packPart_192 : decode cX13_packPart 192 = .ok (.iload 10, 2) := by decide +kernel
theorem dX13_packPart_194 : decode cX13_packPart 194 = .ok (.aload_n 0, 1) := by decide +kernel
theorem dX13_packPart_195 : decode cX13_packPart 195 = .ok (.getfield 195, 3) := by decide +kernel
theorem dX13_packPart_198 : decode cX13_packPart 198 = .ok (.if_icmp .ge 41, 3) := by decide +kernel
theorem dX13_packPart_201 : decode cX13_packPart 201 = .ok (.iload 9, 2) := by decide +kernel
theorem dX13_packPart_203 : decode cX13_packPart 203 = .ok (.aload_n 0, 1) := by decide +kernel
theorem dX13_packPart_204 : decode cX13_packPart 204 = .ok (.getfield 93, 3) := by decide +kernel
theorem dX13_packPart_207 : decode cX13_packPart 207 = .ok (.sipush 320, 3) := by decide +kernel
theorem dX13_packPart_210 : decode cX13_packPart 210 = .ok (.aload_n 0, 1) := by decide +kernel
theorem dX13_packPart_211 : decode cX13_packPart 211 = .ok (.getfield 114, 3) := by decide +kernel
theorem dX13_packPart_214 : decode cX13_packPart 214 = .ok (.iload 10, 2) := by decide +kernel
theorem dX13_packPart_216 : decode cX13_packPart 216 = .ok (.iaload, 1) := by decide +kernel
theorem dX13_packPart_217 : decode cX13_packPart 217 = .ok (.iadd, 1) := by decide +kernel
theorem dX13_packPart_218 : decode cX13_packPart 218 = .ok (.iaload, 1) := by decide +kernel
theorem dX13_packPart_219 : decode cX13_packPart 219 = .ok (.iadd, 1) := by decide +kernel
theorem dX13_packPart_220 : decode cX13_packPart 220 = .ok (.aload_n 0, 1) := by decide +kernel
theorem dX13_packPart_221 : decode cX13_packPart 221 = .ok (.getfield 114, 3) := by decide +kernel
theorem dX13_packPart_224 : decode cX13_packPart 224 = .ok (.iload 10, 2) := by decide +kernel
theorem dX13_packPart_226 : decode cX13_packPart 226 = .ok (.iaload, 1) := by decide +kernel
theorem dX13_packPart_227 : decode cX13_packPart 227 = .ok (.invokestatic 237, 3) := by decide +kernel
theorem dX13_packPart_230 : decode cX13_packPart 230 = .ok (.iadd, 1) := by decide +kernel
theorem dX13_packPart_231 : decode cX13_packPart 231 = .ok (.istore 9, 2) := by decide +kernel
theorem dX13_packPart_233 : decode cX13_packPart 233 = .ok (.iinc 10 1, 3) := by decide +kernel
theorem dX13_packPart_236 : decode cX13_packPart 236 = .ok (.goto (-44), 3) := by decide +kernel
theorem dX13_packPart_239 : decode cX13_packPart 239 = .ok (.aload_n 0, 1) := by decide +kernel
theorem dX13_packPart_240 : decode cX13_packPart 240 = .ok (.invokevirtual 240, 3) := by decide +kernel
theorem dX13_packPart_243 : decode cX13_packPart 243 = .ok (.iconst 3, 1) := by decide +kernel
theorem dX13_packPart_244 : decode cX13_packPart 244 = .ok (.aload_n 0, 1) := by decide +kernel
theorem dX13_packPart_245 : decode cX13_packPart 245 = .ok (.aload_n 0, 1) := by decide +kernel
theorem dX13_packPart_246 : decode cX13_packPart 246 = .ok (.getfield 96, 3) := by decide +kernel
theorem dX13_packPart_249 : decode cX13_packPart 249 = .ok (.invokevirtual 233, 3) := by decide +kernel
theorem dX13_packPart_252 : decode cX13_packPart 252 = .ok (.iadd, 1) := by decide +kernel
theorem dX13_packPart_253 : decode cX13_packPart 253 = .ok (.istore 10, 2) := by decide +kernel
theorem dX13_packPart_255 : decode cX13_packPart 255 = .ok (.aload_n 0, 1) := by decide +kernel
theorem dX13_packPart_256 : decode cX13_packPart 256 = .ok (.getfield 167, 3) := by decide +kernel
theorem dX13_packPart_259 : decode cX13_packPart 259 = .ok (.iconst 3, 1) := by decide +kernel
theorem dX13_packPart_260 : decode cX13_packPart 260 = .ok (.iadd, 1) := by decide +kernel
theorem dX13_packPart_261 : decode cX13_packPart 261 = .ok (.bipush 8, 2) := by decide +kernel
theorem dX13_packPart_263 : decode cX13_packPart 263 = .ok (.irem, 1) := by decide +kernel
theorem dX13_packPart_264 : decode cX13_packPart 264 = .ok (.istore 11, 2) := by decide +kernel
theorem dX13_packPart_266 : decode cX13_packPart 266 = .ok (.iconst 3, 1) := by decide +kernel
theorem dX13_packPart_267 : decode cX13_packPart 267 = .ok (.iload 11, 2) := by decide +kernel
theorem dX13_packPart_269 : decode cX13_packPart 269 = .ok (.ifCond .ne 7, 3) := by decide +kernel
theorem dX13_packPart_272 : decode cX13_packPart 272 = .ok (.iconst 0, 1) := by decide +kernel
theorem dX13_packPart_273 : decode cX13_packPart 273 = .ok (.goto 8, 3) := by decide +kernel
theorem dX13_packPart_276 : decode cX13_packPart 276 = .ok (.bipush 8, 2) := by decide +kernel
theorem dX13_packPart_278 : decode cX13_packPart 278 = .ok (.iload 11, 2) := by decide +kernel
theorem dX13_packPart_280 : decode cX13_packPart 280 = .ok (.isub, 1) := by decide +kernel
theorem dX13_packPart_281 : decode cX13_packPart 281 = .ok (.iadd, 1) := by decide +kernel
theorem dX13_packPart_282 : decode cX13_packPart 282 = .ok (.bipush 32, 2) := by decide +kernel
theorem dX13_packPart_284 : decode cX13_packPart 284 = .ok (.iadd, 1) := by decide +kernel
theorem dX13_packPart_285 : decode cX13_packPart 285 = .ok (.bipush 8, 2) := by decide +kernel
theorem dX13_packPart_287 : decode cX13_packPart 287 = .ok (.iload 4, 2) := by decide +kernel
theorem dX13_packPart_289 : decode cX13_packPart 289 = .ok (.iload_n 3, 1) := by decide +kernel
theorem dX13_packPart_290 : decode cX13_packPart 290 = .ok (.isub, 1) := by decide +kernel
theorem dX13_packPart_291 : decode cX13_packPart 291 = .ok (.imul, 1) := by decide +kernel
theorem dX13_packPart_292 : decode cX13_packPart 292 = .ok (.iadd, 1) := by decide +kernel
theorem dX13_packPart_293 : decode cX13_packPart 293 = .ok (.istore 12, 2) := by decide +kernel
theorem dX13_packPart_295 : decode cX13_packPart 295 = .ok (.aload_n 0, 1) := by decide +kernel
theorem dX13_packPart_296 : decode cX13_packPart 296 = .ok (.iload 5, 2) := by decide +kernel
theorem dX13_packPart_298 : decode cX13_packPart 298 = .ok (.ifCond .eq 7, 3) := by decide +kernel
theorem dX13_packPart_301 : decode cX13_packPart 301 = .ok (.iconst 1, 1) := by decide +kernel
theorem dX13_packPart_302 : decode cX13_packPart 302 = .ok (.goto 4, 3) := by decide +kernel
theorem dX13_packPart_305 : decode cX13_packPart 305 = .ok (.iconst 0, 1) := by decide +kernel
theorem dX13_packPart_306 : decode cX13_packPart 306 = .ok (.invokevirtual 170, 3) := by decide +kernel
theorem dX13_packPart_309 : decode cX13_packPart 309 = .ok (.iload 12, 2) := by decide +kernel
theorem dX13_packPart_311 : decode cX13_packPart 311 = .ok (.iload 10, 2) := by decide +kernel
theorem dX13_packPart_313 : decode cX13_packPart 313 = .ok (.if_icmp .gt 78, 3) := by decide +kernel
theorem dX13_packPart_316 : decode cX13_packPart 316 = .ok (.iload 12, 2) := by decide +kernel
theorem dX13_packPart_318 : decode cX13_packPart 318 = .ok (.iload 9, 2) := by decide +kernel
theorem dX13_packPart_320 : decode cX13_packPart 320 = .ok (.if_icmp .gt 71, 3) := by decide +kernel
theorem dX13_packPart_323 : decode cX13_packPart 323 = .ok (.aload_n 0, 1) := by decide +kernel
theorem dX13_packPart_324 : decode cX13_packPart 324 = .ok (.iconst 0, 1) := by decide +kernel
theorem dX13_packPart_325 : decode cX13_packPart 325 = .ok (.iconst 2, 1) := by decide +kernel
theorem dX13_packPart_326 : decode cX13_packPart 326 = .ok (.invokevirtual 210, 3) := by decide +kernel
theorem dX13_packPart_329 : decode cX13_packPart 329 = .ok (.aload_n 0, 1) := by decide +kernel
theorem dX13_packPart_330 : decode cX13_packPart 330 = .ok (.invokevirtual 243, 3) := by decide +kernel
theorem dX13_packPart_333 : decode cX13_packPart 333 = .ok (.aload_n 0, 1) := by decide +kernel
theorem dX13_packPart_334 : decode cX13_packPart 334 = .ok (.iload 4, 2) := by decide +kernel
theorem dX13_packPart_336 : decode cX13_packPart 336 = .ok (.iload_n 3, 1) := by decide +kernel
theorem dX13_packPart_337 : decode cX13_packPart 337 = .ok (.isub, 1) := by decide +kernel
theorem dX13_packPart_338 : decode cX13_packPart 338 = .ok (.bipush 16, 2) := by decide +kernel
theorem dX13_packPart_340 : decode cX13_packPart 340 = .ok (.invokevirtual 210, 3) := by decide +kernel
theorem dX13_packPart_343 : decode cX13_packPart 343 = .ok (.aload_n 0, 1) := by decide +kernel
theorem dX13_packPart_344 : decode cX13_packPart 344 = .ok (.ldc 246, 2) := by decide +kernel
theorem dX13_packPart_346 : decode cX13_packPart 346 = .ok (.iload 4, 2) := by decide +kernel
theorem dX13_packPart_348 : decode cX13_packPart 348 = .ok (.isub, 1) := by decide +kernel
theorem dX13_packPart_349 : decode cX13_packPart 349 = .ok (.iload_n 3, 1) := by decide +kernel
theorem dX13_packPart_350 : decode cX13_packPart 350 = .ok (.iadd, 1) := by decide +kernel
theorem dX13_packPart_351 : decode cX13_packPart 351 = .ok (.bipush 16, 2) := by decide +kernel
theorem dX13_packPart_353 : decode cX13_packPart 353 = .ok (.invokevirtual 210, 3) := by decide +kernel
theorem dX13_packPart_356 : decode cX13_packPart 356 = .ok (.iload_n 3, 1) := by decide +kernel
theorem dX13_packPart_357 : decode cX13_packPart 357 = .ok (.istore 13, 2) := by decide +kernel
theorem dX13_packPart_359 : decode cX13_packPart 359 = .ok (.iload 13, 2) := by decide +kernel
theorem dX13_packPart_361 : decode cX13_packPart 361 = .ok (.iload 4, 2) := by decide +kernel
theorem dX13_packPart_363 : decode cX13_packPart 363 = .ok (.if_icmp .ge 25, 3) := by decide +kernel
theorem dX13_packPart_366 : decode cX13_packPart 366 = .ok (.aload_n 0, 1) := by decide +kernel
theorem dX13_packPart_367 : decode cX13_packPart 367 = .ok (.aload_n 1, 1) := by decide +kernel
theorem dX13_packPart_368 : decode cX13_packPart 368 = .ok (.iload_n 2, 1) := by decide +kernel
theorem dX13_packPart_369 : decode cX13_packPart 369 = .ok (.iload 13, 2) := by decide +kernel
theorem dX13_packPart_371 : decode cX13_packPart 371 = .ok (.iadd, 1) := by decide +kernel
theorem dX13_packPart_372 : decode cX13_packPart 372 = .ok (.baload, 1) := by decide +kernel
theorem dX13_packPart_373 : decode cX13_packPart 373 = .ok (.sipush 255, 3) := by decide +kernel
theorem dX13_packPart_376 : decode cX13_packPart 376 = .ok (.iand, 1) := by decide +kernel
theorem dX13_packPart_377 : decode cX13_packPart 377 = .ok (.bipush 8, 2) := by decide +kernel
theorem dX13_packPart_379 : decode cX13_packPart 379 = .ok (.invokevirtual 210, 3) := by decide +kernel
theorem dX13_packPart_382 : decode cX13_packPart 382 = .ok (.iinc 13 1, 3) := by decide +kernel
theorem dX13_packPart_385 : decode cX13_packPart 385 = .ok (.goto (-26), 3) := by decide +kernel
theorem dX13_packPart_388 : decode cX13_packPart 388 = .ok (.goto 176, 3) := by decide +kernel
theorem dX13_packPart_391 : decode cX13_packPart 391 = .ok (.iload 10, 2) := by decide +kernel
theorem dX13_packPart_393 : decode cX13_packPart 393 = .ok (.iload 9, 2) := by decide +kernel
theorem dX13_packPart_395 : decode cX13_packPart 395 = .ok (.if_icmp .gt 20, 3) := by decide +kernel
theorem dX13_packPart_398 : decode cX13_packPart 398 = .ok (.aload_n 0, 1) := by decide +kernel
theorem dX13_packPart_399 : decode cX13_packPart 399 = .ok (.iconst 1, 1) := by decide +kernel
theorem dX13_packPart_400 : decode cX13_packPart 400 = .ok (.iconst 2, 1) := by decide +kernel
theorem dX13_packPart_401 : decode cX13_packPart 401 = .ok (.invokevirtual 210, 3) := by decide +kernel
theorem dX13_packPart_404 : decode cX13_packPart 404 = .ok (.aload_n 0, 1) := by decide +kernel
theorem dX13_packPart_405 : decode cX13_packPart 405 = .ok (.aload_n 0, 1) := by decide +kernel
theorem dX13_packPart_406 : decode cX13_packPart 406 = .ok (.getfield 96, 3) := by decide +kernel
theorem dX13_packPart_409 : decode cX13_packPart 409 = .ok (.invokevirtual 247, 3) := by decide +kernel
theorem dX13_packPart_412 : decode cX13_packPart 412 = .ok (.goto 152, 3) := by decide +kernel
theorem dX13_packPart_415 : decode cX13_packPart 415 = .ok (.aload_n 0, 1) := by decide +kernel
theorem dX13_packPart_416 : decode cX13_packPart 416 = .ok (.iconst 2, 1) := by decide +kernel
theorem dX13_packPart_417 : decode cX13_packPart 417 = .ok (.iconst 2, 1) := by decide +kernel
theorem dX13_packPart_418 : decode cX13_packPart 418 = .ok (.invokevirtual 210, 3) := by decide +kernel
theorem dX13_packPart_421 : decode cX13_packPart 421 = .ok (.aload_n 0, 1) := by decide +kernel
theorem dX13_packPart_422 : decode cX13_packPart 422 = .ok (.iload 6, 2) := by decide +kernel
theorem dX13_packPart_424 : decode cX13_packPart 424 = .ok (.sipush 257, 3) := by decide +kernel
theorem dX13_packPart_427 : decode cX13_packPart 427 = .ok (.isub, 1) := by decide +kernel
theorem dX13_packPart_428 : decode cX13_packPart 428 = .ok (.iconst 5, 1) := by decide +kernel
theorem dX13_packPart_429 : decode cX13_packPart 429 = .ok (.invokevirtual 210, 3) := by decide +kernel
theorem dX13_packPart_432 : decode cX13_packPart 432 = .ok (.aload_n 0, 1) := by decide +kernel
theorem dX13_packPart_433 : decode cX13_packPart 433 = .ok (.iload 7, 2) := by decide +kernel
theorem dX13_packPart_435 : decode cX13_packPart 435 = .ok (.iconst 1, 1) := by decide +kernel
theorem dX13_packPart_436 : decode cX13_packPart 436 = .ok (.isub, 1) := by decide +kernel
theorem dX13_packPart_437 : decode cX13_packPart 437 = .ok (.iconst 5, 1) := by decide +kernel
theorem dX13_packPart_438 : decode cX13_packPart 438 = .ok (.invokevirtual 210, 3) := by decide +kernel
theorem dX13_packPart_441 : decode cX13_packPart 441 = .ok (.aload_n 0, 1) := by decide +kernel
theorem dX13_packPart_442 : decode cX13_packPart 442 = .ok (.iload 8, 2) := by decide +kernel
theorem dX13_packPart_444 : decode cX13_packPart 444 = .ok (.iconst 4, 1) := by decide +kernel
theorem dX13_packPart_445 : decode cX13_packPart 445 = .ok (.isub, 1) := by decide +kernel
theorem dX13_packPart_446 : decode cX13_packPart 446 = .ok (.iconst 4, 1) := by decide +kernel
theorem dX13_packPart_447 : decode cX13_packPart 447 = .ok (.invokevirtual 210, 3) := by decide +kernel
theorem dX13_packPart_450 : decode cX13_packPart 450 = .ok (.iconst 0, 1) := by decide +kernel
theorem dX13_packPart_451 : decode cX13_packPart 451 = .ok (.istore 13, 2) := by decide +kernel
theorem dX13_packPart_453 : decode cX13_packPart 453 = .ok (.iload 13, 2) := by decide +kernel
theorem dX13_packPart_455 : decode cX13_packPart 455 = .ok (.iload 8, 2) := by decide +kernel
theorem dX13_packPart_457 : decode cX13_packPart 457 = .ok (.if_icmp .ge 28, 3) := by decide +kernel
theorem dX13_packPart_460 : decode cX13_packPart 460 = .ok (.aload_n 0, 1) := by decide +kernel
theorem dX13_packPart_461 : decode cX13_packPart 461 = .ok (.aload_n 0, 1) := by decide +kernel
theorem dX13_packPart_462 : decode cX13_packPart 462 = .ok (.getfield 93, 3) := by decide +kernel
theorem dX13_packPart_465 : decode cX13_packPart 465 = .ok (.sipush 320, 3) := by decide +kernel
theorem dX13_packPart_468 : decode cX13_packPart 468 = .ok (.iload 13, 2) := by decide +kernel
theorem dX13_packPart_470 : decode cX13_packPart 470 = .ok (.invokestatic 230, 3) := by decide +kernel
theorem dX13_packPart_473 : decode cX13_packPart 473 = .ok (.iadd, 1) := by decide +kernel
theorem dX13_packPart_474 : decode cX13_packPart 474 = .ok (.iaload, 1) := by decide +kernel
theorem dX13_packPart_475 : decode cX13_packPart 475 = .ok (.iconst 3, 1) := by decide +kernel
theorem dX13_packPart_476 : decode cX13_packPart 476 = .ok (.invokevirtual 210, 3) := by decide +kernel
theorem dX13_packPart_479 : decode cX13_packPart 479 = .ok (.iinc 13 1, 3) := by decide +kernel
theorem dX13_packPart_482 : decode cX13_packPart 482 = .ok (.goto (-29), 3) := by decide +kernel
theorem dX13_packPart_485 : decode cX13_packPart 485 = .ok (.aload_n 0, 1) := by decide +kernel
theorem dX13_packPart_486 : decode cX13_packPart 486 = .ok (.aload_n 0, 1) := by decide +kernel
theorem dX13_packPart_487 : decode cX13_packPart 487 = .ok (.getfield 93, 3) := by decide +kernel
theorem dX13_packPart_490 : decode cX13_packPart 490 = .ok (.sipush 320, 3) := by decide +kernel
theorem dX13_packPart_493 : decode cX13_packPart 493 = .ok (.bipush 19, 2) := by decide +kernel
theorem dX13_packPart_495 : decode cX13_packPart 495 = .ok (.invokevirtual 202, 3) := by decide +kernel
theorem dX13_packPart_498 : decode cX13_packPart 498 = .ok (.iconst 0, 1) := by decide +kernel
theorem dX13_packPart_499 : decode cX13_packPart 499 = .ok (.istore 13, 2) := by decide +kernel
theorem dX13_packPart_501 : decode cX13_packPart 501 = .ok (.iload 13, 2) := by decide +kernel
theorem dX13_packPart_503 : decode cX13_packPart 503 = .ok (.aload_n 0, 1) := by decide +kernel
theorem dX13_packPart_504 : decode cX13_packPart 504 = .ok (.getfield 195, 3) := by decide +kernel
theorem dX13_packPart_507 : decode cX13_packPart 507 = .ok (.if_icmp .ge 49, 3) := by decide +kernel
theorem dX13_packPart_510 : decode cX13_packPart 510 = .ok (.aload_n 0, 1) := by decide +kernel
theorem dX13_packPart_511 : decode cX13_packPart 511 = .ok (.aload_n 0, 1) := by decide +kernel
theorem dX13_packPart_512 : decode cX13_packPart 512 = .ok (.getfield 93, 3) := by decide +kernel
theorem dX13_packPart_515 : decode cX13_packPart 515 = .ok (.sipush 320, 3) := by decide +kernel
theorem dX13_packPart_518 : decode cX13_packPart 518 = .ok (.aload_n 0, 1) := by decide +kernel
theorem dX13_packPart_519 : decode cX13_packPart 519 = .ok (.getfield 114, 3) := by decide +kernel
theorem dX13_packPart_522 : decode cX13_packPart 522 = .ok (.iload 13, 2) := by decide +kernel
theorem dX13_packPart_524 : decode cX13_packPart 524 = .ok (.iaload, 1) := by decide +kernel
theorem dX13_packPart_525 : decode cX13_packPart 525 = .ok (.iadd, 1) := by decide +kernel
theorem dX13_packPart_526 : decode cX13_packPart 526 = .ok (.invokevirtual 206, 3) := by decide +kernel
theorem dX13_packPart_529 : decode cX13_packPart 529 = .ok (.aload_n 0, 1) := by decide +kernel
theorem dX13_packPart_530 : decode cX13_packPart 530 = .ok (.aload_n 0, 1) := by decide +kernel
theorem dX13_packPart_531 : decode cX13_packPart 531 = .ok (.getfield 117, 3) := by decide +kernel
theorem dX13_packPart_534 : decode cX13_packPart 534 = .ok (.iload 13, 2) := by decide +kernel
theorem dX13_packPart_536 : decode cX13_packPart 536 = .ok (.iaload, 1) := by decide +kernel
theorem dX13_packPart_537 : decode cX13_packPart 537 = .ok (.aload_n 0, 1) := by decide +kernel
theorem dX13_packPart_538 : decode cX13_packPart 538 = .ok (.getfield 114, 3) := by decide +kernel
theorem dX13_packPart_541 : decode cX13_packPart 541 = .ok (.iload 13, 2) := by decide +kernel
theorem dX13_packPart_543 : decode cX13_packPart 543 = .ok (.iaload, 1) := by decide +kernel
theorem dX13_packPart_544 : decode cX13_packPart 544 = .ok (.invokestatic 237, 3) := by decide +kernel
theorem dX13_packPart_547 : decode cX13_packPart 547 = .ok (.invokevirtual 210, 3) := by decide +kernel
theorem dX13_packPart_550 : decode cX13_packPart 550 = .ok (.iinc 13 1, 3) := by decide +kernel
theorem dX13_packPart_553 : decode cX13_packPart 553 = .ok (.goto (-52), 3) := by decide +kernel
theorem dX13_packPart_556 : decode cX13_packPart 556 = .ok (.aload_n 0, 1) := by decide +kernel
theorem dX13_packPart_557 : decode cX13_packPart 557 = .ok (.aload_n 0, 1) := by decide +kernel
theorem dX13_packPart_558 : decode cX13_packPart 558 = .ok (.getfield 93, 3) := by decide +kernel
theorem dX13_packPart_561 : decode cX13_packPart 561 = .ok (.invokevirtual 247, 3) := by decide +kernel
theorem dX13_packPart_564 : decode cX13_packPart 564 = .ok (.return_, 1) := by decide +kernel
theorem dX13_endByte_0 : decode cX13_endByte 0 = .ok (.aload_n 0, 1) := by decide +kernel
theorem dX13_endByte_1 : decode cX13_endByte 1 = .ok (.getfield 167, 3) := by decide +kernel
theorem dX13_endByte_4 : decode cX13_endByte 4 = .ok (.bipush 8, 2) := by decide +kernel
theorem dX13_endByte_6 : decode cX13_endByte 6 = .ok (.irem, 1) := by decide +kernel
theorem dX13_endByte_7 : decode cX13_endByte 7 = .ok (.ifCond .eq 11, 3) := by decide +kernel
theorem dX13_endByte_10 : decode cX13_endByte 10 = .ok (.aload_n 0, 1) := by decide +kernel
theorem dX13_endByte_11 : decode cX13_endByte 11 = .ok (.iconst 0, 1) := by decide +kernel
theorem dX13_endByte_12 : decode cX13_endByte 12 = .ok (.invokevirtual 170, 3) := by decide +kernel
theorem dX13_endByte_15 : decode cX13_endByte 15 = .ok (.goto (-15), 3) := by decide +kernel
theorem dX13_endByte_18 : decode cX13_endByte 18 = .ok (.return_, 1) := by decide +kernel
theorem dX13_checkOf_0 : decode cX13_checkOf 0 = .ok (.lconst 1, 1) := by decide +kernel
theorem dX13_checkOf_1 : decode cX13_checkOf 1 = .ok (.lstore_n 3, 1) := by decide +kernel
theorem dX13_checkOf_2 : decode cX13_checkOf 2 = .ok (.lconst 0, 1) := by decide +kernel
theorem dX13_checkOf_3 : decode cX13_checkOf 3 = .ok (.lstore 5, 2) := by decide +kernel
theorem dX13_checkOf_5 : decode cX13_checkOf 5 = .ok (.iload_n 1, 1) := by decide +kernel
theorem dX13_checkOf_6 : decode cX13_checkOf 6 = .ok (.istore 7, 2) := by decide +kernel
theorem dX13_checkOf_8 : decode cX13_checkOf 8 = .ok (.iload 7, 2) := by decide +kernel
theorem dX13_checkOf_10 : decode cX13_checkOf 10 = .ok (.iload_n 1, 1) := by decide +kernel
theorem dX13_checkOf_11 : decode cX13_checkOf 11 = .ok (.iload_n 2, 1) := by decide +kernel
theorem dX13_checkOf_12 : decode cX13_checkOf 12 = .ok (.iadd, 1) := by decide +kernel
theorem dX13_checkOf_13 : decode cX13_checkOf 13 = .ok (.if_icmp .ge 35, 3) := by decide +kernel
theorem dX13_checkOf_16 : decode cX13_checkOf 16 = .ok (.lload_n 3, 1) := by decide +kernel
theorem dX13_checkOf_17 : decode cX13_checkOf 17 = .ok (.aload_n 0, 1) := by decide +kernel
theorem dX13_checkOf_18 : decode cX13_checkOf 18 = .ok (.iload 7, 2) := by decide +kernel
theorem dX13_checkOf_20 : decode cX13_checkOf 20 = .ok (.baload, 1) := by decide +kernel
theorem dX13_checkOf_21 : decode cX13_checkOf 21 = .ok (.sipush 255, 3) := by decide +kernel
theorem dX13_checkOf_24 : decode cX13_checkOf 24 = .ok (.iand, 1) := by decide +kernel
theorem dX13_checkOf_25 : decode cX13_checkOf 25 = .ok (.i2l, 1) := by decide +kernel
theorem dX13_checkOf_26 : decode cX13_checkOf 26 = .ok (.ladd, 1) := by decide +kernel
theorem dX13_checkOf_27 : decode cX13_checkOf 27 = .ok (.ldc2_w 251, 3) := by decide +kernel
theorem dX13_checkOf_30 : decode cX13_checkOf 30 = .ok (.lrem, 1) := by decide +kernel
theorem dX13_checkOf_31 : decode cX13_checkOf 31 = .ok (.lstore_n 3, 1) := by decide +kernel
theorem dX13_checkOf_32 : decode cX13_checkOf 32 = .ok (.lload 5, 2) := by decide +kernel
theorem dX13_checkOf_34 : decode cX13_checkOf 34 = .ok (.lload_n 3, 1) := by decide +kernel
theorem dX13_checkOf_35 : decode cX13_checkOf 35 = .ok (.ladd, 1) := by decide +kernel
theorem dX13_checkOf_36 : decode cX13_checkOf 36 = .ok (.ldc2_w 251, 3) := by decide +kernel
theorem dX13_checkOf_39 : decode cX13_checkOf 39 = .ok (.lrem, 1) := by decide +kernel
theorem dX13_checkOf_40 : decode cX13_checkOf 40 = .ok (.lstore 5, 2) := by decide +kernel
theorem dX13_checkOf_42 : decode cX13_checkOf 42 = .ok (.iinc 7 1, 3) := by decide +kernel
theorem dX13_checkOf_45 : decode cX13_checkOf 45 = .ok (.goto (-37), 3) := by decide +kernel
theorem dX13_checkOf_48 : decode cX13_checkOf 48 = .ok (.ldc2_w 253, 3) := by decide +kernel
theorem dX13_checkOf_51 : decode cX13_checkOf 51 = .ok (.lload 5, 2) := by decide +kernel
theorem dX13_checkOf_53 : decode cX13_checkOf 53 = .ok (.lmul, 1) := by decide +kernel
theorem dX13_checkOf_54 : decode cX13_checkOf 54 = .ok (.lload_n 3, 1) := by decide +kernel
theorem dX13_checkOf_55 : decode cX13_checkOf 55 = .ok (.ladd, 1) := by decide +kernel
theorem dX13_checkOf_56 : decode cX13_checkOf 56 = .ok (.lreturn, 1) := by decide +kernel
theorem dX13_pack_0 : decode cX13_pack 0 = .ok (.aload_n 0, 1) := by decide +kernel
theorem dX13_pack_1 : decode cX13_pack 1 = .ok (.aload_n 1, 1) := by decide +kernel
theorem dX13_pack_2 : decode cX13_pack 2 = .ok (.iload_n 2, 1) := by decide +kernel
theorem dX13_pack_3 : decode cX13_pack 3 = .ok (.iload_n 3, 1) := by decide +kernel
theorem dX13_pack_4 : decode cX13_pack 4 = .ok (.invokevirtual 255, 3) := by decide +kernel
theorem dX13_pack_7 : decode cX13_pack 7 = .ok (.aload_n 0, 1) := by decide +kernel
theorem dX13_pack_8 : decode cX13_pack 8 = .ok (.iconst 0, 1) := by decide +kernel
theorem dX13_pack_9 : decode cX13_pack 9 = .ok (.putfield 167, 3) := by decide +kernel
theorem dX13_pack_12 : decode cX13_pack 12 = .ok (.aload_n 0, 1) := by decide +kernel
theorem dX13_pack_13 : decode cX13_pack 13 = .ok (.bipush 120, 2) := by decide +kernel
theorem dX13_pack_15 : decode cX13_pack 15 = .ok (.bipush 8, 2) := by decide +kernel
theorem dX13_pack_17 : decode cX13_pack 17 = .ok (.invokevirtual 210, 3) := by decide +kernel
theorem dX13_pack_20 : decode cX13_pack 20 = .ok (.aload_n 0, 1) := by decide +kernel
theorem dX13_pack_21 : decode cX13_pack 21 = .ok (.sipush 156, 3) := by decide +kernel
theorem dX13_pack_24 : decode cX13_pack 24 = .ok (.bipush 8, 2) := by decide +kernel
theorem dX13_pack_26 : decode cX13_pack 26 = .ok (.invokevirtual 210, 3) := by decide +kernel
theorem dX13_pack_29 : decode cX13_pack 29 = .ok (.iconst 0, 1) := by decide +kernel
theorem dX13_pack_30 : decode cX13_pack 30 = .ok (.istore 4, 2) := by decide +kernel
theorem dX13_pack_32 : decode cX13_pack 32 = .ok (.iconst 0, 1) := by decide +kernel
theorem dX13_pack_33 : decode cX13_pack 33 = .ok (.istore 5, 2) := by decide +kernel
theorem dX13_pack_35 : decode cX13_pack 35 = .ok (.iload 5, 2) := by decide +kernel
theorem dX13_pack_37 : decode cX13_pack 37 = .ok (.ifCond .ne 57, 3) := by decide +kernel
theorem dX13_pack_40 : decode cX13_pack 40 = .ok (.iload 4, 2) := by decide +kernel
theorem dX13_pack_42 : decode cX13_pack 42 = .ok (.sipush 4096, 3) := by decide +kernel
theorem dX13_pack_45 : decode cX13_pack 45 = .ok (.iadd, 1) := by decide +kernel
theorem dX13_pack_46 : decode cX13_pack 46 = .ok (.iload_n 3, 1) := by decide +kernel
theorem dX13_pack_47 : decode cX13_pack 47 = .ok (.if_icmp .ge 12, 3) := by decide +kernel
theorem dX13_pack_50 : decode cX13_pack 50 = .ok (.iload 4, 2) := by decide +kernel
theorem dX13_pack_52 : decode cX13_pack 52 = .ok (.sipush 4096, 3) := by decide +kernel
theorem dX13_pack_55 : decode cX13_pack 55 = .ok (.iadd, 1) := by decide +kernel
theorem dX13_pack_56 : decode cX13_pack 56 = .ok (.goto 4, 3) := by decide +kernel
theorem dX13_pack_59 : decode cX13_pack 59 = .ok (.iload_n 3, 1) := by decide +kernel
theorem dX13_pack_60 : decode cX13_pack 60 = .ok (.istore 6, 2) := by decide +kernel
theorem dX13_pack_62 : decode cX13_pack 62 = .ok (.iload 6, 2) := by decide +kernel
theorem dX13_pack_64 : decode cX13_pack 64 = .ok (.iload_n 3, 1) := by decide +kernel
theorem dX13_pack_65 : decode cX13_pack 65 = .ok (.if_icmp .ne 7, 3) := by decide +kernel
theorem dX13_pack_68 : decode cX13_pack 68 = .ok (.iconst 1, 1) := by decide +kernel
theorem dX13_pack_69 : decode cX13_pack 69 = .ok (.goto 4, 3) := by decide +kernel
theorem dX13_pack_72 : decode cX13_pack 72 = .ok (.iconst 0, 1) := by decide +kernel
theorem dX13_pack_73 : decode cX13_pack 73 = .ok (.istore 5, 2) := by decide +kernel
theorem dX13_pack_75 : decode cX13_pack 75 = .ok (.aload_n 0, 1) := by decide +kernel
theorem dX13_pack_76 : decode cX13_pack 76 = .ok (.aload_n 1, 1) := by decide +kernel
theorem dX13_pack_77 : decode cX13_pack 77 = .ok (.iload_n 2, 1) := by decide +kernel
theorem dX13_pack_78 : decode cX13_pack 78 = .ok (.iload 4, 2) := by decide +kernel
theorem dX13_pack_80 : decode cX13_pack 80 = .ok (.iload 6, 2) := by decide +kernel
theorem dX13_pack_82 : decode cX13_pack 82 = .ok (.iload 5, 2) := by decide +kernel
theorem dX13_pack_84 : decode cX13_pack 84 = .ok (.invokevirtual 259, 3) := by decide +kernel
theorem dX13_pack_87 : decode cX13_pack 87 = .ok (.iload 6, 2) := by decide +kernel
theorem dX13_pack_89 : decode cX13_pack 89 = .ok (.istore 4, 2) := by decide +kernel
theorem dX13_pack_91 : decode cX13_pack 91 = .ok (.goto (-56), 3) := by decide +kernel
theorem dX13_pack_94 : decode cX13_pack 94 = .ok (.aload_n 0, 1) := by decide +kernel
theorem dX13_pack_95 : decode cX13_pack 95 = .ok (.invokevirtual 243, 3) := by decide +kernel
theorem dX13_pack_98 : decode cX13_pack 98 = .ok (.aload_n 1, 1) := by decide +kernel
theorem dX13_pack_99 : decode cX13_pack 99 = .ok (.iload_n 2, 1) := by decide +kernel
theorem dX13_pack_100 : decode cX13_pack 100 = .ok (.iload_n 3, 1) := by decide +kernel
theorem dX13_pack_101 : decode cX13_pack 101 = .ok (.invokestatic 263, 3) := by decide +kernel
theorem dX13_pack_104 : decode cX13_pack 104 = .ok (.lstore 6, 2) := by decide +kernel
theorem dX13_pack_106 : decode cX13_pack 106 = .ok (.bipush 24, 2) := by decide +kernel
theorem dX13_pack_108 : decode cX13_pack 108 = .ok (.istore 8, 2) := by decide +kernel
theorem dX13_pack_110 : decode cX13_pack 110 = .ok (.iload 8, 2) := by decide +kernel
theorem dX13_pack_112 : decode cX13_pack 112 = .ok (.ifCond .lt 25, 3) := by decide +kernel
theorem dX13_pack_115 : decode cX13_pack 115 = .ok (.aload_n 0, 1) := by decide +kernel
theorem dX13_pack_116 : decode cX13_pack 116 = .ok (.lload 6, 2) := by decide +kernel
theorem dX13_pack_118 : decode cX13_pack 118 = .ok (.iload 8, 2) := by decide +kernel
theorem dX13_pack_120 : decode cX13_pack 120 = .ok (.lshr, 1) := by decide +kernel
theorem dX13_pack_121 : decode cX13_pack 121 = .ok (.ldc2_w 267, 3) := by decide +kernel
theorem dX13_pack_124 : decode cX13_pack 124 = .ok (.land, 1) := by decide +kernel
theorem dX13_pack_125 : decode cX13_pack 125 = .ok (.l2i, 1) := by decide +kernel
theorem dX13_pack_126 : decode cX13_pack 126 = .ok (.bipush 8, 2) := by decide +kernel
theorem dX13_pack_128 : decode cX13_pack 128 = .ok (.invokevirtual 210, 3) := by decide +kernel
theorem dX13_pack_131 : decode cX13_pack 131 = .ok (.iinc 8 (-8), 3) := by decide +kernel
theorem dX13_pack_134 : decode cX13_pack 134 = .ok (.goto (-24), 3) := by decide +kernel
theorem dX13_pack_137 : decode cX13_pack 137 = .ok (.aload_n 0, 1) := by decide +kernel
theorem dX13_pack_138 : decode cX13_pack 138 = .ok (.getfield 167, 3) := by decide +kernel
theorem dX13_pack_141 : decode cX13_pack 141 = .ok (.bipush 8, 2) := by decide +kernel
theorem dX13_pack_143 : decode cX13_pack 143 = .ok (.idiv, 1) := by decide +kernel
theorem dX13_pack_144 : decode cX13_pack 144 = .ok (.ireturn, 1) := by decide +kernel
theorem dX13_readBit_0 : decode cX13_readBit 0 = .ok (.aload_n 0, 1) := by decide +kernel
theorem dX13_readBit_1 : decode cX13_readBit 1 = .ok (.aload_n 0, 1) := by decide +kernel
theorem dX13_readBit_2 : decode cX13_readBit 2 = .ok (.getfield 269, 3) := by decide +kernel
theorem dX13_readBit_5 : decode cX13_readBit 5 = .ok (.ifCond .ne 14, 3) := by decide +kernel
theorem dX13_readBit_8 : decode cX13_readBit 8 = .ok (.aload_n 0, 1) := by decide +kernel
theorem dX13_readBit_9 : decode cX13_readBit 9 = .ok (.getfield 273, 3) := by decide +kernel
theorem dX13_readBit_12 : decode cX13_readBit 12 = .ok (.aload_n 0, 1) := by decide +kernel
theorem dX13_readBit_13 : decode cX13_readBit 13 = .ok (.getfield 276, 3) := by decide +kernel
theorem dX13_readBit_16 : decode cX13_readBit 16 = .ok (.if_icmp .ne 7, 3) := by decide +kernel
theorem dX13_readBit_19 : decode cX13_readBit 19 = .ok (.iconst 1, 1) := by decide +kernel
theorem dX13_readBit_20 : decode cX13_readBit 20 = .ok (.goto 4, 3) := by decide +kernel
theorem dX13_readBit_23 : decode cX13_readBit 23 = .ok (.iconst 0, 1) := by decide +kernel
theorem dX13_readBit_24 : decode cX13_readBit 24 = .ok (.putfield 269, 3) := by decide +kernel
theorem dX13_readBit_27 : decode cX13_readBit 27 = .ok (.aload_n 0, 1) := by decide +kernel
theorem dX13_readBit_28 : decode cX13_readBit 28 = .ok (.getfield 269, 3) := by decide +kernel
theorem dX13_readBit_31 : decode cX13_readBit 31 = .ok (.ifCond .eq 5, 3) := by decide +kernel
theorem dX13_readBit_34 : decode cX13_readBit 34 = .ok (.iconst 0, 1) := by decide +kernel
theorem dX13_readBit_35 : decode cX13_readBit 35 = .ok (.ireturn, 1) := by decide +kernel
theorem dX13_readBit_36 : decode cX13_readBit 36 = .ok (.aload_n 0, 1) := by decide +kernel
theorem dX13_readBit_37 : decode cX13_readBit 37 = .ok (.getfield 279, 3) := by decide +kernel
theorem dX13_readBit_40 : decode cX13_readBit 40 = .ok (.aload_n 0, 1) := by decide +kernel
theorem dX13_readBit_41 : decode cX13_readBit 41 = .ok (.getfield 282, 3) := by decide +kernel
theorem dX13_readBit_44 : decode cX13_readBit 44 = .ok (.aload_n 0, 1) := by decide +kernel
theorem dX13_readBit_45 : decode cX13_readBit 45 = .ok (.getfield 273, 3) := by decide +kernel
theorem dX13_readBit_48 : decode cX13_readBit 48 = .ok (.bipush 8, 2) := by decide +kernel
theorem dX13_readBit_50 : decode cX13_readBit 50 = .ok (.idiv, 1) := by decide +kernel
theorem dX13_readBit_51 : decode cX13_readBit 51 = .ok (.iadd, 1) := by decide +kernel
theorem dX13_readBit_52 : decode cX13_readBit 52 = .ok (.baload, 1) := by decide +kernel
theorem dX13_readBit_53 : decode cX13_readBit 53 = .ok (.aload_n 0, 1) := by decide +kernel
theorem dX13_readBit_54 : decode cX13_readBit 54 = .ok (.getfield 273, 3) := by decide +kernel
theorem dX13_readBit_57 : decode cX13_readBit 57 = .ok (.bipush 8, 2) := by decide +kernel
theorem dX13_readBit_59 : decode cX13_readBit 59 = .ok (.irem, 1) := by decide +kernel
theorem dX13_readBit_60 : decode cX13_readBit 60 = .ok (.ishr, 1) := by decide +kernel
theorem dX13_readBit_61 : decode cX13_readBit 61 = .ok (.iconst 1, 1) := by decide +kernel
theorem dX13_readBit_62 : decode cX13_readBit 62 = .ok (.iand, 1) := by decide +kernel
theorem dX13_readBit_63 : decode cX13_readBit 63 = .ok (.istore_n 1, 1) := by decide +kernel
theorem dX13_readBit_64 : decode cX13_readBit 64 = .ok (.aload_n 0, 1) := by decide +kernel
theorem dX13_readBit_65 : decode cX13_readBit 65 = .ok (.dup, 1) := by decide +kernel
theorem dX13_readBit_66 : decode cX13_readBit 66 = .ok (.getfield 273, 3) := by decide +kernel
theorem dX13_readBit_69 : decode cX13_readBit 69 = .ok (.iconst 1, 1) := by decide +kernel
theorem dX13_readBit_70 : decode cX13_readBit 70 = .ok (.iadd, 1) := by decide +kernel
theorem dX13_readBit_71 : decode cX13_readBit 71 = .ok (.putfield 273, 3) := by decide +kernel
theorem dX13_readBit_74 : decode cX13_readBit 74 = .ok (.iload_n 1, 1) := by decide +kernel
theorem dX13_readBit_75 : decode cX13_readBit 75 = .ok (.ireturn, 1) := by decide +kernel
theorem dX13_readNumber_0 : decode cX13_readNumber 0 = .ok (.iconst 0, 1) := by decide +kernel
theorem dX13_readNumber_1 : decode cX13_readNumber 1 = .ok (.istore_n 2, 1) := by decide +kernel
theorem dX13_readNumber_2 : decode cX13_readNumber 2 = .ok (.iconst 0, 1) := by decide +kernel
theorem dX13_readNumber_3 : decode cX13_readNumber 3 = .ok (.istore_n 3, 1) := by decide +kernel
theorem dX13_readNumber_4 : decode cX13_readNumber 4 = .ok (.iload_n 3, 1) := by decide +kernel
theorem dX13_readNumber_5 : decode cX13_readNumber 5 = .ok (.iload_n 1, 1) := by decide +kernel
theorem dX13_readNumber_6 : decode cX13_readNumber 6 = .ok (.if_icmp .ge 18, 3) := by decide +kernel
theorem dX13_readNumber_9 : decode cX13_readNumber 9 = .ok (.iload_n 2, 1) := by decide +kernel
theorem dX13_readNumber_10 : decode cX13_readNumber 10 = .ok (.aload_n 0, 1) := by decide +kernel
theorem dX13_readNumber_11 : decode cX13_readNumber 11 = .ok (.invokevirtual 285, 3) := by decide +kernel
theorem dX13_readNumber_14 : decode cX13_readNumber 14 = .ok (.iload_n 3, 1) := by decide +kernel
theorem dX13_readNumber_15 : decode cX13_readNumber 15 = .ok (.ishl, 1) := by decide +kernel
theorem dX13_readNumber_16 : decode cX13_readNumber 16 = .ok (.ior, 1) := by decide +kernel
theorem dX13_readNumber_17 : decode cX13_readNumber 17 = .ok (.istore_n 2, 1) := by decide +kernel
theorem dX13_readNumber_18 : decode cX13_readNumber 18 = .ok (.iinc 3 1, 3) := by decide +kernel
theorem dX13_readNumber_21 : decode cX13_readNumber 21 = .ok (.goto (-17), 3) := by decide +kernel
theorem dX13_readNumber_24 : decode cX13_readNumber 24 = .ok (.iload_n 2, 1) := by decide +kernel
theorem dX13_readNumber_25 : decode cX13_readNumber 25 = .ok (.ireturn, 1) := by decide +kernel
theorem dX13_readSymbol_0 : decode cX13_readSymbol 0 = .ok (.iconst 0, 1) := by decide +kernel
theorem dX13_readSymbol_1 : decode cX13_readSymbol 1 = .ok (.istore_n 2, 1) := by decide +kernel
theorem dX13_readSymbol_2 : decode cX13_readSymbol 2 = .ok (.aload_n 0, 1) := by decide +kernel
theorem dX13_readSymbol_3 : decode cX13_readSymbol 3 = .ok (.getfield 269, 3) := by decide +kernel
theorem dX13_readSymbol_6 : decode cX13_readSymbol 6 = .ok (.ifCond .ne 49, 3) := by decide +kernel
theorem dX13_readSymbol_9 : decode cX13_readSymbol 9 = .ok (.aload_n 1, 1) := by decide +kernel
theorem dX13_readSymbol_10 : decode cX13_readSymbol 10 = .ok (.getfield 289, 3) := by decide +kernel
theorem dX13_readSymbol_13 : decode cX13_readSymbol 13 = .ok (.iconst 2, 1) := by decide +kernel
theorem dX13_readSymbol_14 : decode cX13_readSymbol 14 = .ok (.iload_n 2, 1) := by decide +kernel
theorem dX13_readSymbol_15 : decode cX13_readSymbol 15 = .ok (.imul, 1) := by decide +kernel
theorem dX13_readSymbol_16 : decode cX13_readSymbol 16 = .ok (.aload_n 0, 1) := by decide +kernel
theorem dX13_readSymbol_17 : decode cX13_readSymbol 17 = .ok (.invokevirtual 285, 3) := by decide +kernel
theorem dX13_readSymbol_20 : decode cX13_readSymbol 20 = .ok (.iadd, 1) := by decide +kernel
theorem dX13_readSymbol_21 : decode cX13_readSymbol 21 = .ok (.iaload, 1) := by decide +kernel
theorem dX13_readSymbol_22 : decode cX13_readSymbol 22 = .ok (.istore_n 3, 1) := by decide +kernel
theorem dX13_readSymbol_23 : decode cX13_readSymbol 23 = .ok (.aload_n 0, 1) := by decide +kernel
theorem dX13_readSymbol_24 : decode cX13_readSymbol 24 = .ok (.getfield 269, 3) := by decide +kernel
theorem dX13_readSymbol_27 : decode cX13_readSymbol 27 = .ok (.ifCond .ne 7, 3) := by decide +kernel
theorem dX13_readSymbol_30 : decode cX13_readSymbol 30 = .ok (.iload_n 3, 1) := by decide +kernel
theorem dX13_readSymbol_31 : decode cX13_readSymbol 31 = .ok (.ifCond .ne 11, 3) := by decide +kernel
theorem dX13_readSymbol_34 : decode cX13_readSymbol 34 = .ok (.aload_n 0, 1) := by decide +kernel
theorem dX13_readSymbol_35 : decode cX13_readSymbol 35 = .ok (.iconst 1, 1) := by decide +kernel
theorem dX13_readSymbol_36 : decode cX13_readSymbol 36 = .ok (.putfield 269, 3) := by decide +kernel
theorem dX13_readSymbol_39 : decode cX13_readSymbol 39 = .ok (.goto 11, 3) := by decide +kernel
theorem dX13_readSymbol_42 : decode cX13_readSymbol 42 = .ok (.iload_n 3, 1) := by decide +kernel
theorem dX13_readSymbol_43 : decode cX13_readSymbol 43 = .ok (.ifCond .ge 7, 3) := by decide +kernel
theorem dX13_readSymbol_46 : decode cX13_readSymbol 46 = .ok (.iconst (-1), 1) := by decide +kernel
theorem dX13_readSymbol_47 : decode cX13_readSymbol 47 = .ok (.iload_n 3, 1) := by decide +kernel
theorem dX13_readSymbol_48 : decode cX13_readSymbol 48 = .ok (.isub, 1) := by decide +kernel
theorem dX13_readSymbol_49 : decode cX13_readSymbol 49 = .ok (.ireturn, 1) := by decide +kernel
theorem dX13_readSymbol_50 : decode cX13_readSymbol 50 = .ok (.iload_n 3, 1) := by decide +kernel
theorem dX13_readSymbol_51 : decode cX13_readSymbol 51 = .ok (.istore_n 2, 1) := by decide +kernel
theorem dX13_readSymbol_52 : decode cX13_readSymbol 52 = .ok (.goto (-50), 3) := by decide +kernel
theorem dX13_readSymbol_55 : decode cX13_readSymbol 55 = .ok (.iconst 0, 1) := by decide +kernel
theorem dX13_readSymbol_56 : decode cX13_readSymbol 56 = .ok (.ireturn, 1) := by decide +kernel
theorem dX13_toByte_0 : decode cX13_toByte 0 = .ok (.aload_n 0, 1) := by decide +kernel
theorem dX13_toByte_1 : decode cX13_toByte 1 = .ok (.getfield 273, 3) := by decide +kernel
theorem dX13_toByte_4 : decode cX13_toByte 4 = .ok (.bipush 8, 2) := by decide +kernel
theorem dX13_toByte_6 : decode cX13_toByte 6 = .ok (.irem, 1) := by decide +kernel
theorem dX13_toByte_7 : decode cX13_toByte 7 = .ok (.ifCond .eq 16, 3) := by decide +kernel
theorem dX13_toByte_10 : decode cX13_toByte 10 = .ok (.aload_n 0, 1) := by decide +kernel
theorem dX13_toByte_11 : decode cX13_toByte 11 = .ok (.dup, 1) := by decide +kernel
theorem dX13_toByte_12 : decode cX13_toByte 12 = .ok (.getfield 273, 3) := by decide +kernel
theorem dX13_toByte_15 : decode cX13_toByte 15 = .ok (.iconst 1, 1) := by decide +kernel
theorem dX13_toByte_16 : decode cX13_toByte 16 = .ok (.iadd, 1) := by decide +kernel
theorem dX13_toByte_17 : decode cX13_toByte 17 = .ok (.putfield 273, 3) := by decide +kernel
theorem dX13_toByte_20 : decode cX13_toByte 20 = .ok (.goto (-20), 3) := by decide +kernel
theorem dX13_toByte_23 : decode cX13_toByte 23 = .ok (.return_, 1) := by decide +kernel
theorem dX13_makeByte_0 : decode cX13_makeByte 0 = .ok (.aload_n 0, 1) := by decide +kernel
theorem dX13_makeByte_1 : decode cX13_makeByte 1 = .ok (.aload_n 0, 1) := by decide +kernel
theorem dX13_makeByte_2 : decode cX13_makeByte 2 = .ok (.getfield 269, 3) := by decide +kernel
theorem dX13_makeByte_5 : decode cX13_makeByte 5 = .ok (.ifCond .ne 14, 3) := by decide +kernel
theorem dX13_makeByte_8 : decode cX13_makeByte 8 = .ok (.aload_n 0, 1) := by decide +kernel
theorem dX13_makeByte_9 : decode cX13_makeByte 9 = .ok (.getfield 292, 3) := by decide +kernel
theorem dX13_makeByte_12 : decode cX13_makeByte 12 = .ok (.aload_n 0, 1) := by decide +kernel
theorem dX13_makeByte_13 : decode cX13_makeByte 13 = .ok (.getfield 295, 3) := by decide +kernel
theorem dX13_makeByte_16 : decode cX13_makeByte 16 = .ok (.if_icmp .ne 7, 3) := by decide +kernel
theorem dX13_makeByte_19 : decode cX13_makeByte 19 = .ok (.iconst 1, 1) := by decide +kernel
theorem dX13_makeByte_20 : decode cX13_makeByte 20 = .ok (.goto 4, 3) := by decide +kernel
theorem dX13_makeByte_23 : decode cX13_makeByte 23 = .ok (.iconst 0, 1) := by decide +kernel
theorem dX13_makeByte_24 : decode cX13_makeByte 24 = .ok (.putfield 269, 3) := by decide +kernel
theorem dX13_makeByte_27 : decode cX13_makeByte 27 = .ok (.aload_n 0, 1) := by decide +kernel
theorem dX13_makeByte_28 : decode cX13_makeByte 28 = .ok (.getfield 269, 3) := by decide +kernel
theorem dX13_makeByte_31 : decode cX13_makeByte 31 = .ok (.ifCond .ne 24, 3) := by decide +kernel
theorem dX13_makeByte_34 : decode cX13_makeByte 34 = .ok (.aload_n 0, 1) := by decide +kernel
theorem dX13_makeByte_35 : decode cX13_makeByte 35 = .ok (.getfield 298, 3) := by decide +kernel
theorem dX13_makeByte_38 : decode cX13_makeByte 38 = .ok (.aload_n 0, 1) := by decide +kernel
theorem dX13_makeByte_39 : decode cX13_makeByte 39 = .ok (.getfield 292, 3) := by decide +kernel
theorem dX13_makeByte_42 : decode cX13_makeByte 42 = .ok (.iload_n 1, 1) := by decide +kernel
theorem dX13_makeByte_43 : decode cX13_makeByte 43 = .ok (.i2b, 1) := by decide +kernel
theorem dX13_makeByte_44 : decode cX13_makeByte 44 = .ok (.bastore, 1) := by decide +kernel
theorem dX13_makeByte_45 : decode cX13_makeByte 45 = .ok (.aload_n 0, 1) := by decide +kernel
theorem dX13_makeByte_46 : decode cX13_makeByte 46 = .ok (.dup, 1) := by decide +kernel
theorem dX13_makeByte_47 : decode cX13_makeByte 47 = .ok (.getfield 292, 3) := by decide +kernel
theorem dX13_makeByte_50 : decode cX13_makeByte 50 = .ok (.iconst 1, 1) := by decide +kernel
theorem dX13_makeByte_51 : decode cX13_makeByte 51 = .ok (.iadd, 1) := by decide +kernel
theorem dX13_makeByte_52 : decode cX13_makeByte 52 = .ok (.putfield 292, 3) := by decide +kernel
theorem dX13_makeByte_55 : decode cX13_makeByte 55 = .ok (.return_, 1) := by decide +kernel
theorem dX13_readStored_0 : decode cX13_readStored 0 = .ok (.aload_n 0, 1) := by decide +kernel
theorem dX13_readStored_1 : decode cX13_readStored 1 = .ok (.invokevirtual 301, 3) := by decide +kernel
theorem dX13_readStored_4 : decode cX13_readStored 4 = .ok (.aload_n 0, 1) := by decide +kernel
theorem dX13_readStored_5 : decode cX13_readStored 5 = .ok (.bipush 16, 2) := by decide +kernel
theorem dX13_readStored_7 : decode cX13_readStored 7 = .ok (.invokevirtual 304, 3) := by decide +kernel
theorem dX13_readStored_10 : decode cX13_readStored 10 = .ok (.istore_n 1, 1) := by decide +kernel
theorem dX13_readStored_11 : decode cX13_readStored 11 = .ok (.aload_n 0, 1) := by decide +kernel
theorem dX13_readStored_12 : decode cX13_readStored 12 = .ok (.aload_n 0, 1) := by decide +kernel
theorem dX13_readStored_13 : decode cX13_readStored 13 = .ok (.bipush 16, 2) := by decide +kernel
theorem dX13_readStored_15 : decode cX13_readStored 15 = .ok (.invokevirtual 304, 3) := by decide +kernel
theorem dX13_readStored_18 : decode cX13_readStored 18 = .ok (.ldc 246, 2) := by decide +kernel
theorem dX13_readStored_20 : decode cX13_readStored 20 = .ok (.iload_n 1, 1) := by decide +kernel
theorem dX13_readStored_21 : decode cX13_readStored 21 = .ok (.isub, 1) := by decide +kernel
theorem dX13_readStored_22 : decode cX13_readStored 22 = .ok (.if_icmp .ne 10, 3) := by decide +kernel
theorem dX13_readStored_25 : decode cX13_readStored 25 = .ok (.aload_n 0, 1) := by decide +kernel
theorem dX13_readStored_26 : decode cX13_readStored 26 = .ok (.getfield 269, 3) := by decide +kernel
theorem dX13_readStored_29 : decode cX13_readStored 29 = .ok (.ifCond .eq 7, 3) := by decide +kernel
theorem dX13_readStored_32 : decode cX13_readStored 32 = .ok (.iconst 1, 1) := by decide +kernel
theorem dX13_readStored_33 : decode cX13_readStored 33 = .ok (.goto 4, 3) := by decide +kernel
theorem dX13_readStored_36 : decode cX13_readStored 36 = .ok (.iconst 0, 1) := by decide +kernel
theorem dX13_readStored_37 : decode cX13_readStored 37 = .ok (.putfield 269, 3) := by decide +kernel
theorem dX13_readStored_40 : decode cX13_readStored 40 = .ok (.iconst 0, 1) := by decide +kernel
theorem dX13_readStored_41 : decode cX13_readStored 41 = .ok (.istore_n 2, 1) := by decide +kernel
theorem dX13_readStored_42 : decode cX13_readStored 42 = .ok (.iload_n 2, 1) := by decide +kernel
theorem dX13_readStored_43 : decode cX13_readStored 43 = .ok (.iload_n 1, 1) := by decide +kernel
theorem dX13_readStored_44 : decode cX13_readStored 44 = .ok (.if_icmp .ge 26, 3) := by decide +kernel
theorem dX13_readStored_47 : decode cX13_readStored 47 = .ok (.aload_n 0, 1) := by decide +kernel
theorem dX13_readStored_48 : decode cX13_readStored 48 = .ok (.getfield 269, 3) := by decide +kernel
theorem dX13_readStored_51 : decode cX13_readStored 51 = .ok (.ifCond .ne 19, 3) := by decide +kernel
theorem dX13_readStored_54 : decode cX13_readStored 54 = .ok (.aload_n 0, 1) := by decide +kernel
theorem dX13_readStored_55 : decode cX13_readStored 55 = .ok (.aload_n 0, 1) := by decide +kernel
theorem dX13_readStored_56 : decode cX13_readStored 56 = .ok (.bipush 8, 2) := by decide +kernel
theorem dX13_readStored_58 : decode cX13_readStored 58 = .ok (.invokevirtual 304, 3) := by decide +kernel
theorem dX13_readStored_61 : decode cX13_readStored 61 = .ok (.invokevirtual 307, 3) := by decide +kernel
theorem dX13_readStored_64 : decode cX13_readStored 64 = .ok (.iinc 2 1, 3) := by decide +kernel
theorem dX13_readStored_67 : decode cX13_readStored 67 = .ok (.goto (-25), 3) := by decide +kernel
theorem dX13_readStored_70 : decode cX13_readStored 70 = .ok (.return_, 1) := by decide +kernel
theorem dX13_readMade_0 : decode cX13_readMade 0 = .ok (.aload_n 0, 1) := by decide +kernel
theorem dX13_readMade_1 : decode cX13_readMade 1 = .ok (.iconst 5, 1) := by decide +kernel
theorem dX13_readMade_2 : decode cX13_readMade 2 = .ok (.invokevirtual 304, 3) := by decide +kernel
theorem dX13_readMade_5 : decode cX13_readMade 5 = .ok (.sipush 257, 3) := by decide +kernel
theorem dX13_readMade_8 : decode cX13_readMade 8 = .ok (.iadd, 1) := by decide +kernel
theorem dX13_readMade_9 : decode cX13_readMade 9 = .ok (.istore_n 1, 1) := by decide +kernel
theorem dX13_readMade_10 : decode cX13_readMade 10 = .ok (.aload_n 0, 1) := by decide +kernel
theorem dX13_readMade_11 : decode cX13_readMade 11 = .ok (.iconst 5, 1) := by decide +kernel
theorem dX13_readMade_12 : decode cX13_readMade 12 = .ok (.invokevirtual 304, 3) := by decide +kernel
theorem dX13_readMade_15 : decode cX13_readMade 15 = .ok (.iconst 1, 1) := by decide +kernel
theorem dX13_readMade_16 : decode cX13_readMade 16 = .ok (.iadd, 1) := by decide +kernel
theorem dX13_readMade_17 : decode cX13_readMade 17 = .ok (.istore_n 2, 1) := by decide +kernel
theorem dX13_readMade_18 : decode cX13_readMade 18 = .ok (.aload_n 0, 1) := by decide +kernel
theorem dX13_readMade_19 : decode cX13_readMade 19 = .ok (.iconst 4, 1) := by decide +kernel
theorem dX13_readMade_20 : decode cX13_readMade 20 = .ok (.invokevirtual 304, 3) := by decide +kernel
theorem dX13_readMade_23 : decode cX13_readMade 23 = .ok (.iconst 4, 1) := by decide +kernel
theorem dX13_readMade_24 : decode cX13_readMade 24 = .ok (.iadd, 1) := by decide +kernel
theorem dX13_readMade_25 : decode cX13_readMade 25 = .ok (.istore_n 3, 1) := by decide +kernel
theorem dX13_readMade_26 : decode cX13_readMade 26 = .ok (.aload_n 0, 1) := by decide +kernel
theorem dX13_readMade_27 : decode cX13_readMade 27 = .ok (.aload_n 0, 1) := by decide +kernel
theorem dX13_readMade_28 : decode cX13_readMade 28 = .ok (.getfield 269, 3) := by decide +kernel
theorem dX13_readMade_31 : decode cX13_readMade 31 = .ok (.ifCond .ne 16, 3) := by decide +kernel
theorem dX13_readMade_34 : decode cX13_readMade 34 = .ok (.iload_n 1, 1) := by decide +kernel
theorem dX13_readMade_35 : decode cX13_readMade 35 = .ok (.sipush 286, 3) := by decide +kernel
theorem dX13_readMade_38 : decode cX13_readMade 38 = .ok (.if_icmp .gt 9, 3) := by decide +kernel
theorem dX13_readMade_41 : decode cX13_readMade 41 = .ok (.iload_n 2, 1) := by decide +kernel
theorem dX13_readMade_42 : decode cX13_readMade 42 = .ok (.bipush 30, 2) := by decide +kernel
theorem dX13_readMade_44 : decode cX13_readMade 44 = .ok (.if_icmp .le 7, 3) := by decide +kernel
theorem dX13_readMade_47 : decode cX13_readMade 47 = .ok (.iconst 1, 1) := by decide +kernel
theorem dX13_readMade_48 : decode cX13_readMade 48 = .ok (.goto 4, 3) := by decide +kernel
theorem dX13_readMade_51 : decode cX13_readMade 51 = .ok (.iconst 0, 1) := by decide +kernel
theorem dX13_readMade_52 : decode cX13_readMade 52 = .ok (.putfield 269, 3) := by decide +kernel
theorem dX13_readMade_55 : decode cX13_readMade 55 = .ok (.iconst 0, 1) := by decide +kernel
theorem dX13_readMade_56 : decode cX13_readMade 56 = .ok (.istore 4, 2) := by decide +kernel
theorem dX13_readMade_58 : decode cX13_readMade 58 = .ok (.iload 4, 2) := by decide +kernel
theorem dX13_readMade_60 : decode cX13_readMade 60 = .ok (.bipush 19, 2) := by decide +kernel
theorem dX13_readMade_62 : decode cX13_readMade 62 = .ok (.if_icmp .ge 38, 3) := by decide +kernel
theorem dX13_readMade_65 : decode cX13_readMade 65 = .ok (.aload_n 0, 1) := by decide +kernel
theorem dX13_readMade_66 : decode cX13_readMade 66 = .ok (.getfield 136, 3) := by decide +kernel
theorem dX13_readMade_69 : decode cX13_readMade 69 = .ok (.sipush 320, 3) := by decide +kernel
theorem dX13_readMade_72 : decode cX13_readMade 72 = .ok (.iload 4, 2) := by decide +kernel
theorem dX13_readMade_74 : decode cX13_readMade 74 = .ok (.invokestatic 230, 3) := by decide +kernel
theorem dX13_readMade_77 : decode cX13_readMade 77 = .ok (.iadd, 1) := by decide +kernel
theorem dX13_readMade_78 : decode cX13_readMade 78 = .ok (.iload 4, 2) := by decide +kernel
theorem dX13_readMade_80 : decode cX13_readMade 80 = .ok (.iload_n 3, 1) := by decide +kernel
theorem dX13_readMade_81 : decode cX13_readMade 81 = .ok (.if_icmp .ge 11, 3) := by decide +kernel
theorem dX13_readMade_84 : decode cX13_readMade 84 = .ok (.aload_n 0, 1) := by decide +kernel
theorem dX13_readMade_85 : decode cX13_readMade 85 = .ok (.iconst 3, 1) := by decide +kernel
theorem dX13_readMade_86 : decode cX13_readMade 86 = .ok (.invokevirtual 304, 3) := by decide +kernel
theorem dX13_readMade_89 : decode cX13_readMade 89 = .ok (.goto 4, 3) := by decide +kernel
theorem dX13_readMade_92 : decode cX13_readMade 92 = .ok (.iconst 0, 1) := by decide +kernel
theorem dX13_readMade_93 : decode cX13_readMade 93 = .ok (.iastore, 1) := by decide +kernel
theorem dX13_readMade_94 : decode cX13_readMade 94 = .ok (.iinc 4 1, 3) := by decide +kernel
theorem dX13_readMade_97 : decode cX13_readMade 97 = .ok (.goto (-39), 3) := by decide +kernel
theorem dX13_readMade_100 : decode cX13_readMade 100 = .ok (.aload_n 0, 1) := by decide +kernel
theorem dX13_readMade_101 : decode cX13_readMade 101 = .ok (.aload_n 0, 1) := by decide +kernel
theorem dX13_readMade_102 : decode cX13_readMade 102 = .ok (.getfield 269, 3) := by decide +kernel
theorem dX13_readMade_105 : decode cX13_readMade 105 = .ok (.ifCond .ne 23, 3) := by decide +kernel
theorem dX13_readMade_108 : decode cX13_readMade 108 = .ok (.aload_n 0, 1) := by decide +kernel
theorem dX13_readMade_109 : decode cX13_readMade 109 = .ok (.getfield 133, 3) := by decide +kernel
theorem dX13_readMade_112 : decode cX13_readMade 112 = .ok (.aload_n 0, 1) := by decide +kernel
theorem dX13_readMade_113 : decode cX13_readMade 113 = .ok (.getfield 136, 3) := by decide +kernel
theorem dX13_readMade_116 : decode cX13_readMade 116 = .ok (.sipush 320, 3) := by decide +kernel
theorem dX13_readMade_119 : decode cX13_readMade 119 = .ok (.bipush 19, 2) := by decide +kernel
theorem dX13_readMade_121 : decode cX13_readMade 121 = .ok (.iconst 0, 1) := by decide +kernel
theorem dX13_readMade_122 : decode cX13_readMade 122 = .ok (.invokevirtual 310, 3) := by decide +kernel
theorem dX13_readMade_125 : decode cX13_readMade 125 = .ok (.ifCond .ne 7, 3) := by decide +kernel
theorem dX13_readMade_128 : decode cX13_readMade 128 = .ok (.iconst 1, 1) := by decide +kernel
theorem dX13_readMade_129 : decode cX13_readMade 129 = .ok (.goto 4, 3) := by decide +kernel
theorem dX13_readMade_132 : decode cX13_readMade 132 = .ok (.iconst 0, 1) := by decide +kernel
theorem dX13_readMade_133 : decode cX13_readMade 133 = .ok (.putfield 269, 3) := by decide +kernel
theorem dX13_readMade_136 : decode cX13_readMade 136 = .ok (.iconst 0, 1) := by decide +kernel
theorem dX13_readMade_137 : decode cX13_readMade 137 = .ok (.istore 4, 2) := by decide +kernel
theorem dX13_readMade_139 : decode cX13_readMade 139 = .ok (.iload 4, 2) := by decide +kernel
theorem dX13_readMade_141 : decode cX13_readMade 141 = .ok (.iload_n 1, 1) := by decide +kernel
theorem dX13_readMade_142 : decode cX13_readMade 142 = .ok (.iload_n 2, 1) := by decide +kernel
theorem dX13_readMade_143 : decode cX13_readMade 143 = .ok (.iadd, 1) := by decide +kernel
theorem dX13_readMade_144 : decode cX13_readMade 144 = .ok (.if_icmp .ge 199, 3) := by decide +kernel
theorem dX13_readMade_147 : decode cX13_readMade 147 = .ok (.aload_n 0, 1) := by decide +kernel
theorem dX13_readMade_148 : decode cX13_readMade 148 = .ok (.getfield 269, 3) := by decide +kernel
theorem dX13_readMade_151 : decode cX13_readMade 151 = .ok (.ifCond .ne 192, 3) := by decide +kernel
theorem dX13_readMade_154 : decode cX13_readMade 154 = .ok (.aload_n 0, 1) := by decide +kernel
theorem dX13_readMade_155 : decode cX13_readMade 155 = .ok (.aload_n 0, 1) := by decide +kernel
theorem dX13_readMade_156 : decode cX13_readMade 156 = .ok (.getfield 133, 3) := by decide +kernel
theorem dX13_readMade_159 : decode cX13_readMade 159 = .ok (.invokevirtual 314, 3) := by decide +kernel
theorem dX13_readMade_162 : decode cX13_readMade 162 = .ok (.istore 5, 2) := by decide +kernel
theorem dX13_readMade_164 : decode cX13_readMade 164 = .ok (.aload_n 0, 1) := by decide +kernel
theorem dX13_readMade_165 : decode cX13_readMade 165 = .ok (.aload_n 0, 1) := by decide +kernel
theorem dX13_readMade_166 : decode cX13_readMade 166 = .ok (.getfield 269, 3) := by decide +kernel
theorem dX13_readMade_169 : decode cX13_readMade 169 = .ok (.ifCond .ne 15, 3) := by decide +kernel
theorem dX13_readMade_172 : decode cX13_readMade 172 = .ok (.iload 5, 2) := by decide +kernel
theorem dX13_readMade_174 : decode cX13_readMade 174 = .ok (.bipush 16, 2) := by decide +kernel
theorem dX13_readMade_176 : decode cX13_readMade 176 = .ok (.if_icmp .ne 12, 3) := by decide +kernel
theorem dX13_readMade_179 : decode cX13_readMade 179 = .ok (.iload 4, 2) := by decide +kernel
theorem dX13_readMade_181 : decode cX13_readMade 181 = .ok (.ifCond .ne 7, 3) := by decide +kernel
theorem dX13_readMade_184 : decode cX13_readMade 184 = .ok (.iconst 1, 1) := by decide +kernel
theorem dX13_readMade_185 : decode cX13_readMade 185 = .ok (.goto 4, 3) := by decide +kernel
theorem dX13_readMade_188 : decode cX13_readMade 188 = .ok (.iconst 0, 1) := by decide +kernel
theorem dX13_readMade_189 : decode cX13_readMade 189 = .ok (.putfield 269, 3) := by decide +kernel
theorem dX13_readMade_192 : decode cX13_readMade 192 = .ok (.iload 5, 2) := by decide +kernel
theorem dX13_readMade_194 : decode cX13_readMade 194 = .ok (.bipush 16, 2) := by decide +kernel
theorem dX13_readMade_196 : decode cX13_readMade 196 = .ok (.if_icmp .ne 13, 3) := by decide +kernel
theorem dX13_readMade_199 : decode cX13_readMade 199 = .ok (.iconst 3, 1) := by decide +kernel
theorem dX13_readMade_200 : decode cX13_readMade 200 = .ok (.aload_n 0, 1) := by decide +kernel
theorem dX13_readMade_201 : decode cX13_readMade 201 = .ok (.iconst 2, 1) := by decide +kernel
theorem dX13_readMade_202 : decode cX13_readMade 202 = .ok (.invokevirtual 304, 3) := by decide +kernel
theorem dX13_readMade_205 : decode cX13_readMade 205 = .ok (.iadd, 1) := by decide +kernel
theorem dX13_readMade_206 : decode cX13_readMade 206 = .ok (.goto 40, 3) := by decide +kernel
theorem dX13_readMade_209 : decode cX13_readMade 209 = .ok (.iload 5, 2) := by decide +kernel
theorem dX13_readMade_211 : decode cX13_readMade 211 = .ok (.bipush 17, 2) := by decide +kernel
theorem dX13_readMade_213 : decode cX13_readMade 213 = .ok (.if_icmp .ne 13, 3) := by decide +kernel
theorem dX13_readMade_216 : decode cX13_readMade 216 = .ok (.iconst 3, 1) := by decide +kernel
theorem dX13_readMade_217 : decode cX13_readMade 217 = .ok (.aload_n 0, 1) := by decide +kernel
theorem dX13_readMade_218 : decode cX13_readMade 218 = .ok (.iconst 3, 1) := by decide +kernel
theorem dX13_readMade_219 : decode cX13_readMade 219 = .ok (.invokevirtual 304, 3) := by decide +kernel
theorem dX13_readMade_222 : decode cX13_readMade 222 = .ok (.iadd, 1) := by decide +kernel
theorem dX13_readMade_223 : decode cX13_readMade 223 = .ok (.goto 23, 3) := by decide +kernel
theorem dX13_readMade_226 : decode cX13_readMade 226 = .ok (.iload 5, 2) := by decide +kernel
theorem dX13_readMade_228 : decode cX13_readMade 228 = .ok (.bipush 18, 2) := by decide +kernel
theorem dX13_readMade_230 : decode cX13_readMade 230 = .ok (.if_icmp .ne 15, 3) := by decide +kernel
theorem dX13_readMade_233 : decode cX13_readMade 233 = .ok (.bipush 11, 2) := by decide +kernel
theorem dX13_readMade_235 : decode cX13_readMade 235 = .ok (.aload_n 0, 1) := by decide +kernel
theorem dX13_readMade_236 : decode cX13_readMade 236 = .ok (.bipush 7, 2) := by decide +kernel
theorem dX13_readMade_238 : decode cX13_readMade 238 = .ok (.invokevirtual 304, 3) := by decide +kernel
theorem dX13_readMade_241 : decode cX13_readMade 241 = .ok (.iadd, 1) := by decide +kernel
theorem dX13_readMade_242 : decode cX13_readMade 242 = .ok (.goto 4, 3) := by decide +kernel
theorem dX13_readMade_245 : decode cX13_readMade 245 = .ok (.iconst 1, 1) := by decide +kernel
theorem dX13_readMade_246 : decode cX13_readMade 246 = .ok (.istore 6, 2) := by decide +kernel
theorem dX13_readMade_248 : decode cX13_readMade 248 = .ok (.aload_n 0, 1) := by decide +kernel
theorem dX13_readMade_249 : decode cX13_readMade 249 = .ok (.aload_n 0, 1) := by decide +kernel
theorem dX13_readMade_250 : decode cX13_readMade 250 = .ok (.getfield 269, 3) := by decide +kernel
theorem dX13_readMade_253 : decode cX13_readMade 253 = .ok (.ifCond .ne 14, 3) := by decide +kernel
theorem dX13_readMade_256 : decode cX13_readMade 256 = .ok (.iload 4, 2) := by decide +kernel
theorem dX13_readMade_258 : decode cX13_readMade 258 = .ok (.iload 6, 2) := by decide +kernel
theorem dX13_readMade_260 : decode cX13_readMade 260 = .ok (.iadd, 1) := by decide +kernel
theorem dX13_readMade_261 : decode cX13_readMade 261 = .ok (.iload_n 1, 1) := by decide +kernel
theorem dX13_readMade_262 : decode cX13_readMade 262 = .ok (.iload_n 2, 1) := by decide +kernel
theorem dX13_readMade_263 : decode cX13_readMade 263 = .ok (.iadd, 1) := by decide +kernel
theorem dX13_readMade_264 : decode cX13_readMade 264 = .ok (.if_icmp .le 7, 3) := by decide +kernel
theorem dX13_readMade_267 : decode cX13_readMade 267 = .ok (.iconst 1, 1) := by decide +kernel
theorem dX13_readMade_268 : decode cX13_readMade 268 = .ok (.goto 4, 3) := by decide +kernel
theorem dX13_readMade_271 : decode cX13_readMade 271 = .ok (.iconst 0, 1) := by decide +kernel
theorem dX13_readMade_272 : decode cX13_readMade 272 = .ok (.putfield 269, 3) := by decide +kernel
theorem dX13_readMade_275 : decode cX13_readMade 275 = .ok (.iconst 0, 1) := by decide +kernel
theorem dX13_readMade_276 : decode cX13_readMade 276 = .ok (.istore 7, 2) := by decide +kernel
theorem dX13_readMade_278 : decode cX13_readMade 278 = .ok (.iload 7, 2) := by decide +kernel
theorem dX13_readMade_280 : decode cX13_readMade 280 = .ok (.iload 6, 2) := by decide +kernel
theorem dX13_readMade_282 : decode cX13_readMade 282 = .ok (.if_icmp .ge 58, 3) := by decide +kernel
theorem dX13_readMade_285 : decode cX13_readMade 285 = .ok (.aload_n 0, 1) := by decide +kernel
theorem dX13_readMade_286 : decode cX13_readMade 286 = .ok (.getfield 269, 3) := by decide +kernel
theorem dX13_readMade_289 : decode cX13_readMade 289 = .ok (.ifCond .ne 51, 3) := by decide +kernel
theorem dX13_readMade_292 : decode cX13_readMade 292 = .ok (.aload_n 0, 1) := by decide +kernel
theorem dX13_readMade_293 : decode cX13_readMade 293 = .ok (.getfield 111, 3) := by decide +kernel
theorem dX13_readMade_296 : decode cX13_readMade 296 = .ok (.iload 4, 2) := by decide +kernel
theorem dX13_readMade_298 : decode cX13_readMade 298 = .ok (.iload 5, 2) := by decide +kernel
theorem dX13_readMade_300 : decode cX13_readMade 300 = .ok (.bipush 16, 2) := by decide +kernel
theorem dX13_readMade_302 : decode cX13_readMade 302 = .ok (.if_icmp .ge 8, 3) := by decide +kernel
theorem dX13_readMade_305 : decode cX13_readMade 305 = .ok (.iload 5, 2) := by decide +kernel
theorem dX13_readMade_307 : decode cX13_readMade 307 = .ok (.goto 23, 3) := by decide +kernel
theorem dX13_readMade_310 : decode cX13_readMade 310 = .ok (.iload 5, 2) := by decide +kernel
theorem dX13_readMade_312 : decode cX13_readMade 312 = .ok (.bipush 16, 2) := by decide +kernel
theorem dX13_readMade_314 : decode cX13_readMade 314 = .ok (.if_icmp .ne 15, 3) := by decide +kernel
theorem dX13_readMade_317 : decode cX13_readMade 317 = .ok (.aload_n 0, 1) := by decide +kernel
theorem dX13_readMade_318 : decode cX13_readMade 318 = .ok (.getfield 111, 3) := by decide +kernel
theorem dX13_readMade_321 : decode cX13_readMade 321 = .ok (.iload 4, 2) := by decide +kernel
theorem dX13_readMade_323 : decode cX13_readMade 323 = .ok (.iconst 1, 1) := by decide +kernel
theorem dX13_readMade_324 : decode cX13_readMade 324 = .ok (.isub, 1) := by decide +kernel
theorem dX13_readMade_325 : decode cX13_readMade 325 = .ok (.iaload, 1) := by decide +kernel
theorem dX13_readMade_326 : decode cX13_readMade 326 = .ok (.goto 4, 3) := by decide +kernel
theorem dX13_readMade_329 : decode cX13_readMade 329 = .ok (.iconst 0, 1) := by decide +kernel
theorem dX13_readMade_330 : decode cX13_readMade 330 = .ok (.iastore, 1) := by decide +kernel
theorem dX13_readMade_331 : decode cX13_readMade 331 = .ok (.iinc 4 1, 3) := by decide +kernel
theorem dX13_readMade_334 : decode cX13_readMade 334 = .ok (.iinc 7 1, 3) := by decide +kernel
theorem dX13_readMade_337 : decode cX13_readMade 337 = .ok (.goto (-59), 3) := by decide +kernel
theorem dX13_readMade_340 : decode cX13_readMade 340 = .ok (.goto (-201), 3) := by decide +kernel
theorem dX13_readMade_343 : decode cX13_readMade 343 = .ok (.iconst 0, 1) := by decide +kernel
theorem dX13_readMade_344 : decode cX13_readMade 344 = .ok (.istore 5, 2) := by decide +kernel
theorem dX13_readMade_346 : decode cX13_readMade 346 = .ok (.iload 5, 2) := by decide +kernel
theorem dX13_readMade_348 : decode cX13_readMade 348 = .ok (.sipush 320, 3) := by decide +kernel
theorem dX13_readMade_351 : decode cX13_readMade 351 = .ok (.if_icmp .ge 74, 3) := by decide +kernel
theorem dX13_readMade_354 : decode cX13_readMade 354 = .ok (.aload_n 0, 1) := by decide +kernel
theorem dX13_readMade_355 : decode cX13_readMade 355 = .ok (.getfield 269, 3) := by decide +kernel
theorem dX13_readMade_358 : decode cX13_readMade 358 = .ok (.ifCond .ne 67, 3) := by decide +kernel
theorem dX13_readMade_361 : decode cX13_readMade 361 = .ok (.aload_n 0, 1) := by decide +kernel
theorem dX13_readMade_362 : decode cX13_readMade 362 = .ok (.getfield 136, 3) := by decide +kernel
theorem dX13_readMade_365 : decode cX13_readMade 365 = .ok (.iload 5, 2) := by decide +kernel
theorem dX13_readMade_367 : decode cX13_readMade 367 = .ok (.iload 5, 2) := by decide +kernel
theorem dX13_readMade_369 : decode cX13_readMade 369 = .ok (.iload_n 1, 1) := by decide +kernel
theorem dX13_readMade_370 : decode cX13_readMade 370 = .ok (.if_icmp .ge 13, 3) := by decide +kernel
theorem dX13_readMade_373 : decode cX13_readMade 373 = .ok (.aload_n 0, 1) := by decide +kernel
theorem dX13_readMade_374 : decode cX13_readMade 374 = .ok (.getfield 111, 3) := by decide +kernel
theorem dX13_readMade_377 : decode cX13_readMade 377 = .ok (.iload 5, 2) := by decide +kernel
theorem dX13_readMade_379 : decode cX13_readMade 379 = .ok (.iaload, 1) := by decide +kernel
theorem dX13_readMade_380 : decode cX13_readMade 380 = .ok (.goto 38, 3) := by decide +kernel
theorem dX13_readMade_383 : decode cX13_readMade 383 = .ok (.iload 5, 2) := by decide +kernel
theorem dX13_readMade_385 : decode cX13_readMade 385 = .ok (.sipush 288, 3) := by decide +kernel
theorem dX13_readMade_388 : decode cX13_readMade 388 = .ok (.if_icmp .lt 29, 3) := by decide +kernel
theorem dX13_readMade_391 : decode cX13_readMade 391 = .ok (.iload 5, 2) := by decide +kernel
theorem dX13_readMade_393 : decode cX13_readMade 393 = .ok (.sipush 288, 3) := by decide +kernel
theorem dX13_readMade_396 : decode cX13_readMade 396 = .ok (.isub, 1) := by decide +kernel
theorem dX13_readMade_397 : decode cX13_readMade 397 = .ok (.iload_n 2, 1) := by decide +kernel
theorem dX13_readMade_398 : decode cX13_readMade 398 = .ok (.if_icmp .ge 19, 3) := by decide +kernel
theorem dX13_readMade_401 : decode cX13_readMade 401 = .ok (.aload_n 0, 1) := by decide +kernel
theorem dX13_readMade_402 : decode cX13_readMade 402 = .ok (.getfield 111, 3) := by decide +kernel
theorem dX13_readMade_405 : decode cX13_readMade 405 = .ok (.iload_n 1, 1) := by decide +kernel
theorem dX13_readMade_406 : decode cX13_readMade 406 = .ok (.iload 5, 2) := by decide +kernel
theorem dX13_readMade_408 : decode cX13_readMade 408 = .ok (.iadd, 1) := by decide +kernel
theorem dX13_readMade_409 : decode cX13_readMade 409 = .ok (.sipush 288, 3) := by decide +kernel
theorem dX13_readMade_412 : decode cX13_readMade 412 = .ok (.isub, 1) := by decide +kernel
theorem dX13_readMade_413 : decode cX13_readMade 413 = .ok (.iaload, 1) := by decide +kernel
theorem dX13_readMade_414 : decode cX13_readMade 414 = .ok (.goto 4, 3) := by decide +kernel
theorem dX13_readMade_417 : decode cX13_readMade 417 = .ok (.iconst 0, 1) := by decide +kernel
theorem dX13_readMade_418 : decode cX13_readMade 418 = .ok (.iastore, 1) := by decide +kernel
theorem dX13_readMade_419 : decode cX13_readMade 419 = .ok (.iinc 5 1, 3) := by decide +kernel
theorem dX13_readMade_422 : decode cX13_readMade 422 = .ok (.goto (-76), 3) := by decide +kernel
theorem dX13_readMade_425 : decode cX13_readMade 425 = .ok (.aload_n 0, 1) := by decide +kernel
theorem dX13_readMade_426 : decode cX13_readMade 426 = .ok (.aload_n 0, 1) := by decide +kernel
theorem dX13_readMade_427 : decode cX13_readMade 427 = .ok (.getfield 269, 3) := by decide +kernel
theorem dX13_readMade_430 : decode cX13_readMade 430 = .ok (.ifCond .ne 53, 3) := by decide +kernel
theorem dX13_readMade_433 : decode cX13_readMade 433 = .ok (.aload_n 0, 1) := by decide +kernel
theorem dX13_readMade_434 : decode cX13_readMade 434 = .ok (.getfield 136, 3) := by decide +kernel
theorem dX13_readMade_437 : decode cX13_readMade 437 = .ok (.sipush 256, 3) := by decide +kernel
theorem dX13_readMade_440 : decode cX13_readMade 440 = .ok (.iaload, 1) := by decide +kernel
theorem dX13_readMade_441 : decode cX13_readMade 441 = .ok (.ifCond .eq 42, 3) := by decide +kernel
theorem dX13_readMade_444 : decode cX13_readMade 444 = .ok (.aload_n 0, 1) := by decide +kernel
theorem dX13_readMade_445 : decode cX13_readMade 445 = .ok (.getfield 126, 3) := by decide +kernel
theorem dX13_readMade_448 : decode cX13_readMade 448 = .ok (.aload_n 0, 1) := by decide +kernel
theorem dX13_readMade_449 : decode cX13_readMade 449 = .ok (.getfield 136, 3) := by decide +kernel
theorem dX13_readMade_452 : decode cX13_readMade 452 = .ok (.iconst 0, 1) := by decide +kernel
theorem dX13_readMade_453 : decode cX13_readMade 453 = .ok (.sipush 288, 3) := by decide +kernel
theorem dX13_readMade_456 : decode cX13_readMade 456 = .ok (.iconst 0, 1) := by decide +kernel
theorem dX13_readMade_457 : decode cX13_readMade 457 = .ok (.invokevirtual 310, 3) := by decide +kernel
theorem dX13_readMade_460 : decode cX13_readMade 460 = .ok (.ifCond .eq 23, 3) := by decide +kernel
theorem dX13_readMade_463 : decode cX13_readMade 463 = .ok (.aload_n 0, 1) := by decide +kernel
theorem dX13_readMade_464 : decode cX13_readMade 464 = .ok (.getfield 130, 3) := by decide +kernel
theorem dX13_readMade_467 : decode cX13_readMade 467 = .ok (.aload_n 0, 1) := by decide +kernel
theorem dX13_readMade_468 : decode cX13_readMade 468 = .ok (.getfield 136, 3) := by decide +kernel
theorem dX13_readMade_471 : decode cX13_readMade 471 = .ok (.sipush 288, 3) := by decide +kernel
theorem dX13_readMade_474 : decode cX13_readMade 474 = .ok (.bipush 32, 2) := by decide +kernel
theorem dX13_readMade_476 : decode cX13_readMade 476 = .ok (.iconst 1, 1) := by decide +kernel
theorem dX13_readMade_477 : decode cX13_readMade 477 = .ok (.invokevirtual 310, 3) := by decide +kernel
theorem dX13_readMade_480 : decode cX13_readMade 480 = .ok (.ifCond .ne 7, 3) := by decide +kernel
theorem dX13_readMade_483 : decode cX13_readMade 483 = .ok (.iconst 1, 1) := by decide +kernel
theorem dX13_readMade_484 : decode cX13_readMade 484 = .ok (.goto 4, 3) := by decide +kernel
theorem dX13_readMade_487 : decode cX13_readMade 487 = .ok (.iconst 0, 1) := by decide +kernel
theorem dX13_readMade_488 : decode cX13_readMade 488 = .ok (.putfield 269, 3) := by decide +kernel
theorem dX13_readMade_491 : decode cX13_readMade 491 = .ok (.return_, 1) := by decide +kernel
theorem dX13_readSymbols_0 : decode cX13_readSymbols 0 = .ok (.aload_n 0, 1) := by decide +kernel
theorem dX13_readSymbols_1 : decode cX13_readSymbols 1 = .ok (.aload_n 0, 1) := by decide +kernel
theorem dX13_readSymbols_2 : decode cX13_readSymbols 2 = .ok (.getfield 126, 3) := by decide +kernel
theorem dX13_readSymbols_5 : decode cX13_readSymbols 5 = .ok (.invokevirtual 314, 3) := by decide +kernel
theorem dX13_readSymbols_8 : decode cX13_readSymbols 8 = .ok (.istore_n 2, 1) := by decide +kernel
theorem dX13_readSymbols_9 : decode cX13_readSymbols 9 = .ok (.iload_n 2, 1) := by decide +kernel
theorem dX13_readSymbols_10 : decode cX13_readSymbols 10 = .ok (.sipush 256, 3) := by decide +kernel
theorem dX13_readSymbols_13 : decode cX13_readSymbols 13 = .ok (.if_icmp .eq 208, 3) := by decide +kernel
theorem dX13_readSymbols_16 : decode cX13_readSymbols 16 = .ok (.aload_n 0, 1) := by decide +kernel
theorem dX13_readSymbols_17 : decode cX13_readSymbols 17 = .ok (.getfield 269, 3) := by decide +kernel
theorem dX13_readSymbols_20 : decode cX13_readSymbols 20 = .ok (.ifCond .ne 201, 3) := by decide +kernel
theorem dX13_readSymbols_23 : decode cX13_readSymbols 23 = .ok (.iload_n 2, 1) := by decide +kernel
theorem dX13_readSymbols_24 : decode cX13_readSymbols 24 = .ok (.sipush 256, 3) := by decide +kernel
theorem dX13_readSymbols_27 : decode cX13_readSymbols 27 = .ok (.if_icmp .ge 11, 3) := by decide +kernel
theorem dX13_readSymbols_30 : decode cX13_readSymbols 30 = .ok (.aload_n 0, 1) := by decide +kernel
theorem dX13_readSymbols_31 : decode cX13_readSymbols 31 = .ok (.iload_n 2, 1) := by decide +kernel
theorem dX13_readSymbols_32 : decode cX13_readSymbols 32 = .ok (.invokevirtual 307, 3) := by decide +kernel
theorem dX13_readSymbols_35 : decode cX13_readSymbols 35 = .ok (.goto 174, 3) := by decide +kernel
theorem dX13_readSymbols_38 : decode cX13_readSymbols 38 = .ok (.aload_n 0, 1) := by decide +kernel
theorem dX13_readSymbols_39 : decode cX13_readSymbols 39 = .ok (.iload_n 2, 1) := by decide +kernel
theorem dX13_readSymbols_40 : decode cX13_readSymbols 40 = .ok (.sipush 285, 3) := by decide +kernel
theorem dX13_readSymbols_43 : decode cX13_readSymbols 43 = .ok (.if_icmp .le 7, 3) := by decide +kernel
theorem dX13_readSymbols_46 : decode cX13_readSymbols 46 = .ok (.iconst 1, 1) := by decide +kernel
theorem dX13_readSymbols_47 : decode cX13_readSymbols 47 = .ok (.goto 4, 3) := by decide +kernel
theorem dX13_readSymbols_50 : decode cX13_readSymbols 50 = .ok (.iconst 0, 1) := by decide +kernel
theorem dX13_readSymbols_51 : decode cX13_readSymbols 51 = .ok (.putfield 269, 3) := by decide +kernel
theorem dX13_readSymbols_54 : decode cX13_readSymbols 54 = .ok (.aload_n 0, 1) := by decide +kernel
theorem dX13_readSymbols_55 : decode cX13_readSymbols 55 = .ok (.getfield 269, 3) := by decide +kernel
theorem dX13_readSymbols_58 : decode cX13_readSymbols 58 = .ok (.ifCond .eq 7, 3) := by decide +kernel
theorem dX13_readSymbols_61 : decode cX13_readSymbols 61 = .ok (.iconst 0, 1) := by decide +kernel
theorem dX13_readSymbols_62 : decode cX13_readSymbols 62 = .ok (.goto 16, 3) := by decide +kernel
theorem dX13_readSymbols_65 : decode cX13_readSymbols 65 = .ok (.iload_n 2, 1) := by decide +kernel
theorem dX13_readSymbols_66 : decode cX13_readSymbols 66 = .ok (.invokestatic 161, 3) := by decide +kernel
theorem dX13_readSymbols_69 : decode cX13_readSymbols 69 = .ok (.aload_n 0, 1) := by decide +kernel
theorem dX13_readSymbols_70 : decode cX13_readSymbols 70 = .ok (.iload_n 2, 1) := by decide +kernel
theorem dX13_readSymbols_71 : decode cX13_readSymbols 71 = .ok (.invokestatic 154, 3) := by decide +kernel
theorem dX13_readSymbols_74 : decode cX13_readSymbols 74 = .ok (.invokevirtual 304, 3) := by decide +kernel
theorem dX13_readSymbols_77 : decode cX13_readSymbols 77 = .ok (.iadd, 1) := by decide +kernel
theorem dX13_readSymbols_78 : decode cX13_readSymbols 78 = .ok (.istore_n 3, 1) := by decide +kernel
theorem dX13_readSymbols_79 : decode cX13_readSymbols 79 = .ok (.aload_n 0, 1) := by decide +kernel
theorem dX13_readSymbols_80 : decode cX13_readSymbols 80 = .ok (.aload_n 0, 1) := by decide +kernel
theorem dX13_readSymbols_81 : decode cX13_readSymbols 81 = .ok (.getfield 130, 3) := by decide +kernel
theorem dX13_readSymbols_84 : decode cX13_readSymbols 84 = .ok (.invokevirtual 314, 3) := by decide +kernel
theorem dX13_readSymbols_87 : decode cX13_readSymbols 87 = .ok (.istore 4, 2) := by decide +kernel
theorem dX13_readSymbols_89 : decode cX13_readSymbols 89 = .ok (.aload_n 0, 1) := by decide +kernel
theorem dX13_readSymbols_90 : decode cX13_readSymbols 90 = .ok (.aload_n 0, 1) := by decide +kernel
theorem dX13_readSymbols_91 : decode cX13_readSymbols 91 = .ok (.getfield 269, 3) := by decide +kernel
theorem dX13_readSymbols_94 : decode cX13_readSymbols 94 = .ok (.ifCond .ne 10, 3) := by decide +kernel
theorem dX13_readSymbols_97 : decode cX13_readSymbols 97 = .ok (.iload 4, 2) := by decide +kernel
theorem dX13_readSymbols_99 : decode cX13_readSymbols 99 = .ok (.bipush 29, 2) := by decide +kernel
theorem dX13_readSymbols_101 : decode cX13_readSymbols 101 = .ok (.if_icmp .le 7, 3) := by decide +kernel
theorem dX13_readSymbols_104 : decode cX13_readSymbols 104 = .ok (.iconst 1, 1) := by decide +kernel
theorem dX13_readSymbols_105 : decode cX13_readSymbols 105 = .ok (.goto 4, 3) := by decide +kernel
theorem dX13_readSymbols_108 : decode cX13_readSymbols 108 = .ok (.iconst 0, 1) := by decide +kernel
theorem dX13_readSymbols_109 : decode cX13_readSymbols 109 = .ok (.putfield 269, 3) := by decide +kernel
theorem dX13_readSymbols_112 : decode cX13_readSymbols 112 = .ok (.aload_n 0, 1) := by decide +kernel
theorem dX13_readSymbols_113 : decode cX13_readSymbols 113 = .ok (.getfield 269, 3) := by decide +kernel
theorem dX13_readSymbols_116 : decode cX13_readSymbols 116 = .ok (.ifCond .eq 7, 3) := by decide +kernel
theorem dX13_readSymbols_119 : decode cX13_readSymbols 119 = .ok (.iconst 0, 1) := by decide +kernel
theorem dX13_readSymbols_120 : decode cX13_readSymbols 120 = .ok (.goto 18, 3) := by decide +kernel
theorem dX13_readSymbols_123 : decode cX13_readSymbols 123 = .ok (.iload 4, 2) := by decide +kernel
theorem dX13_readSymbols_125 : decode cX13_readSymbols 125 = .ok (.invokestatic 164, 3) := by decide +kernel
theorem dX13_readSymbols_128 : decode cX13_readSymbols 128 = .ok (.aload_n 0, 1) := by decide +kernel
theorem dX13_readSymbols_129 : decode cX13_readSymbols 129 = .ok (.iload 4, 2) := by decide +kernel
theorem dX13_readSymbols_131 : decode cX13_readSymbols 131 = .ok (.invokestatic 158, 3) := by decide +kernel
theorem dX13_readSymbols_134 : decode cX13_readSymbols 134 = .ok (.invokevirtual 304, 3) := by decide +kernel
theorem dX13_readSymbols_137 : decode cX13_readSymbols 137 = .ok (.iadd, 1) := by decide +kernel
theorem dX13_readSymbols_138 : decode cX13_readSymbols 138 = .ok (.istore 5, 2) := by decide +kernel
theorem dX13_readSymbols_140 : decode cX13_readSymbols 140 = .ok (.aload_n 0, 1) := by decide +kernel
theorem dX13_readSymbols_141 : decode cX13_readSymbols 141 = .ok (.aload_n 0, 1) := by decide +kernel
theorem dX13_readSymbols_142 : decode cX13_readSymbols 142 = .ok (.getfield 269, 3) := by decide +kernel
theorem dX13_readSymbols_145 : decode cX13_readSymbols 145 = .ok (.ifCond .ne 18, 3) := by decide +kernel
theorem dX13_readSymbols_148 : decode cX13_readSymbols 148 = .ok (.iload 5, 2) := by decide +kernel
theorem dX13_readSymbols_150 : decode cX13_readSymbols 150 = .ok (.aload_n 0, 1) := by decide +kernel
theorem dX13_readSymbols_151 : decode cX13_readSymbols 151 = .ok (.getfield 292, 3) := by decide +kernel
theorem dX13_readSymbols_154 : decode cX13_readSymbols 154 = .ok (.if_icmp .gt 9, 3) := by decide +kernel
theorem dX13_readSymbols_157 : decode cX13_readSymbols 157 = .ok (.iload 5, 2) := by decide +kernel
theorem dX13_readSymbols_159 : decode cX13_readSymbols 159 = .ok (.iload_n 1, 1) := by decide +kernel
theorem dX13_readSymbols_160 : decode cX13_readSymbols 160 = .ok (.if_icmp .le 7, 3) := by decide +kernel
theorem dX13_readSymbols_163 : decode cX13_readSymbols 163 = .ok (.iconst 1, 1) := by decide +kernel
theorem dX13_readSymbols_164 : decode cX13_readSymbols 164 = .ok (.goto 4, 3) := by decide +kernel
theorem dX13_readSymbols_167 : decode cX13_readSymbols 167 = .ok (.iconst 0, 1) := by decide +kernel
theorem dX13_readSymbols_168 : decode cX13_readSymbols 168 = .ok (.putfield 269, 3) := by decide +kernel
theorem dX13_readSymbols_171 : decode cX13_readSymbols 171 = .ok (.iconst 0, 1) := by decide +kernel
theorem dX13_readSymbols_172 : decode cX13_readSymbols 172 = .ok (.istore 6, 2) := by decide +kernel
theorem dX13_readSymbols_174 : decode cX13_readSymbols 174 = .ok (.iload 6, 2) := by decide +kernel
theorem dX13_readSymbols_176 : decode cX13_readSymbols 176 = .ok (.iload_n 3, 1) := by decide +kernel
theorem dX13_readSymbols_177 : decode cX13_readSymbols 177 = .ok (.if_icmp .ge 32, 3) := by decide +kernel
theorem dX13_readSymbols_180 : decode cX13_readSymbols 180 = .ok (.aload_n 0, 1) := by decide +kernel
theorem dX13_readSymbols_181 : decode cX13_readSymbols 181 = .ok (.getfield 269, 3) := by decide +kernel
theorem dX13_readSymbols_184 : decode cX13_readSymbols 184 = .ok (.ifCond .ne 25, 3) := by decide +kernel
theorem dX13_readSymbols_187 : decode cX13_readSymbols 187 = .ok (.aload_n 0, 1) := by decide +kernel
theorem dX13_readSymbols_188 : decode cX13_readSymbols 188 = .ok (.aload_n 0, 1) := by decide +kernel
theorem dX13_readSymbols_189 : decode cX13_readSymbols 189 = .ok (.getfield 298, 3) := by decide +kernel
theorem dX13_readSymbols_192 : decode cX13_readSymbols 192 = .ok (.aload_n 0, 1) := by decide +kernel
theorem dX13_readSymbols_193 : decode cX13_readSymbols 193 = .ok (.getfield 292, 3) := by decide +kernel
theorem dX13_readSymbols_196 : decode cX13_readSymbols 196 = .ok (.iload 5, 2) := by decide +kernel
theorem dX13_readSymbols_198 : decode cX13_readSymbols 198 = .ok (.isub, 1) := by decide +kernel
theorem dX13_readSymbols_199 : decode cX13_readSymbols 199 = .ok (.baload, 1) := by decide +kernel
theorem dX13_readSymbols_200 : decode cX13_readSymbols 200 = .ok (.invokevirtual 307, 3) := by decide +kernel
theorem dX13_readSymbols_203 : decode cX13_readSymbols 203 = .ok (.iinc 6 1, 3) := by decide +kernel
theorem dX13_readSymbols_206 : decode cX13_readSymbols 206 = .ok (.goto (-32), 3) := by decide +kernel
theorem dX13_readSymbols_209 : decode cX13_readSymbols 209 = .ok (.aload_n 0, 1) := by decide +kernel
theorem dX13_readSymbols_210 : decode cX13_readSymbols 210 = .ok (.aload_n 0, 1) := by decide +kernel
theorem dX13_readSymbols_211 : decode cX13_readSymbols 211 = .ok (.getfield 126, 3) := by decide +kernel
theorem dX13_readSymbols_214 : decode cX13_readSymbols 214 = .ok (.invokevirtual 314, 3) := by decide +kernel
theorem dX13_readSymbols_217 : decode cX13_readSymbols 217 = .ok (.istore_n 2, 1) := by decide +kernel
theorem dX13_readSymbols_218 : decode cX13_readSymbols 218 = .ok (.goto (-209), 3) := by decide +kernel
theorem dX13_readSymbols_221 : decode cX13_readSymbols 221 = .ok (.return_, 1) := by decide +kernel
theorem dX13_unpack_0 : decode cX13_unpack 0 = .ok (.aload_n 0, 1) := by decide +kernel
theorem dX13_unpack_1 : decode cX13_unpack 1 = .ok (.aload_n 1, 1) := by decide +kernel
theorem dX13_unpack_2 : decode cX13_unpack 2 = .ok (.putfield 279, 3) := by decide +kernel
theorem dX13_unpack_5 : decode cX13_unpack 5 = .ok (.aload_n 0, 1) := by decide +kernel
theorem dX13_unpack_6 : decode cX13_unpack 6 = .ok (.iload_n 2, 1) := by decide +kernel
theorem dX13_unpack_7 : decode cX13_unpack 7 = .ok (.putfield 282, 3) := by decide +kernel
theorem dX13_unpack_10 : decode cX13_unpack 10 = .ok (.aload_n 0, 1) := by decide +kernel
theorem dX13_unpack_11 : decode cX13_unpack 11 = .ok (.bipush 8, 2) := by decide +kernel
theorem dX13_unpack_13 : decode cX13_unpack 13 = .ok (.iload_n 3, 1) := by decide +kernel
theorem dX13_unpack_14 : decode cX13_unpack 14 = .ok (.imul, 1) := by decide +kernel
theorem dX13_unpack_15 : decode cX13_unpack 15 = .ok (.putfield 276, 3) := by decide +kernel
theorem dX13_unpack_18 : decode cX13_unpack 18 = .ok (.aload_n 0, 1) := by decide +kernel
theorem dX13_unpack_19 : decode cX13_unpack 19 = .ok (.iconst 0, 1) := by decide +kernel
theorem dX13_unpack_20 : decode cX13_unpack 20 = .ok (.putfield 273, 3) := by decide +kernel
theorem dX13_unpack_23 : decode cX13_unpack 23 = .ok (.aload_n 0, 1) := by decide +kernel
theorem dX13_unpack_24 : decode cX13_unpack 24 = .ok (.iconst 0, 1) := by decide +kernel
theorem dX13_unpack_25 : decode cX13_unpack 25 = .ok (.putfield 269, 3) := by decide +kernel
theorem dX13_unpack_28 : decode cX13_unpack 28 = .ok (.aload_n 0, 1) := by decide +kernel
theorem dX13_unpack_29 : decode cX13_unpack 29 = .ok (.aload 4, 2) := by decide +kernel
theorem dX13_unpack_31 : decode cX13_unpack 31 = .ok (.putfield 298, 3) := by decide +kernel
theorem dX13_unpack_34 : decode cX13_unpack 34 = .ok (.aload_n 0, 1) := by decide +kernel
theorem dX13_unpack_35 : decode cX13_unpack 35 = .ok (.iconst 0, 1) := by decide +kernel
theorem dX13_unpack_36 : decode cX13_unpack 36 = .ok (.putfield 292, 3) := by decide +kernel
theorem dX13_unpack_39 : decode cX13_unpack 39 = .ok (.aload_n 0, 1) := by decide +kernel
theorem dX13_unpack_40 : decode cX13_unpack 40 = .ok (.iload 5, 2) := by decide +kernel
theorem dX13_unpack_42 : decode cX13_unpack 42 = .ok (.putfield 295, 3) := by decide +kernel
theorem dX13_unpack_45 : decode cX13_unpack 45 = .ok (.aload_n 0, 1) := by decide +kernel
theorem dX13_unpack_46 : decode cX13_unpack 46 = .ok (.bipush 8, 2) := by decide +kernel
theorem dX13_unpack_48 : decode cX13_unpack 48 = .ok (.invokevirtual 304, 3) := by decide +kernel
theorem dX13_unpack_51 : decode cX13_unpack 51 = .ok (.istore 6, 2) := by decide +kernel
theorem dX13_unpack_53 : decode cX13_unpack 53 = .ok (.aload_n 0, 1) := by decide +kernel
theorem dX13_unpack_54 : decode cX13_unpack 54 = .ok (.bipush 8, 2) := by decide +kernel
theorem dX13_unpack_56 : decode cX13_unpack 56 = .ok (.invokevirtual 304, 3) := by decide +kernel
theorem dX13_unpack_59 : decode cX13_unpack 59 = .ok (.istore 7, 2) := by decide +kernel
theorem dX13_unpack_61 : decode cX13_unpack 61 = .ok (.aload_n 0, 1) := by decide +kernel
theorem dX13_unpack_62 : decode cX13_unpack 62 = .ok (.aload_n 0, 1) := by decide +kernel
theorem dX13_unpack_63 : decode cX13_unpack 63 = .ok (.getfield 269, 3) := by decide +kernel
theorem dX13_unpack_66 : decode cX13_unpack 66 = .ok (.ifCond .ne 49, 3) := by decide +kernel
theorem dX13_unpack_69 : decode cX13_unpack 69 = .ok (.sipush 256, 3) := by decide +kernel
theorem dX13_unpack_72 : decode cX13_unpack 72 = .ok (.iload 6, 2) := by decide +kernel
theorem dX13_unpack_74 : decode cX13_unpack 74 = .ok (.imul, 1) := by decide +kernel
theorem dX13_unpack_75 : decode cX13_unpack 75 = .ok (.iload 7, 2) := by decide +kernel
theorem dX13_unpack_77 : decode cX13_unpack 77 = .ok (.iadd, 1) := by decide +kernel
theorem dX13_unpack_78 : decode cX13_unpack 78 = .ok (.bipush 31, 2) := by decide +kernel
theorem dX13_unpack_80 : decode cX13_unpack 80 = .ok (.irem, 1) := by decide +kernel
theorem dX13_unpack_81 : decode cX13_unpack 81 = .ok (.ifCond .ne 34, 3) := by decide +kernel
theorem dX13_unpack_84 : decode cX13_unpack 84 = .ok (.iload 6, 2) := by decide +kernel
theorem dX13_unpack_86 : decode cX13_unpack 86 = .ok (.bipush 16, 2) := by decide +kernel
theorem dX13_unpack_88 : decode cX13_unpack 88 = .ok (.irem, 1) := by decide +kernel
theorem dX13_unpack_89 : decode cX13_unpack 89 = .ok (.bipush 8, 2) := by decide +kernel
theorem dX13_unpack_91 : decode cX13_unpack 91 = .ok (.if_icmp .ne 24, 3) := by decide +kernel
theorem dX13_unpack_94 : decode cX13_unpack 94 = .ok (.iload 6, 2) := by decide +kernel
theorem dX13_unpack_96 : decode cX13_unpack 96 = .ok (.bipush 16, 2) := by decide +kernel
theorem dX13_unpack_98 : decode cX13_unpack 98 = .ok (.idiv, 1) := by decide +kernel
theorem dX13_unpack_99 : decode cX13_unpack 99 = .ok (.bipush 7, 2) := by decide +kernel
theorem dX13_unpack_101 : decode cX13_unpack 101 = .ok (.if_icmp .gt 14, 3) := by decide +kernel
theorem dX13_unpack_104 : decode cX13_unpack 104 = .ok (.iload 7, 2) := by decide +kernel
theorem dX13_unpack_106 : decode cX13_unpack 106 = .ok (.bipush 32, 2) := by decide +kernel
theorem dX13_unpack_108 : decode cX13_unpack 108 = .ok (.idiv, 1) := by decide +kernel
theorem dX13_unpack_109 : decode cX13_unpack 109 = .ok (.iconst 2, 1) := by decide +kernel
theorem dX13_unpack_110 : decode cX13_unpack 110 = .ok (.irem, 1) := by decide +kernel
theorem dX13_unpack_111 : decode cX13_unpack 111 = .ok (.iconst 1, 1) := by decide +kernel
theorem dX13_unpack_112 : decode cX13_unpack 112 = .ok (.if_icmp .ne 7, 3) := by decide +kernel
theorem dX13_unpack_115 : decode cX13_unpack 115 = .ok (.iconst 1, 1) := by decide +kernel
theorem dX13_unpack_116 : decode cX13_unpack 116 = .ok (.goto 4, 3) := by decide +kernel
theorem dX13_unpack_119 : decode cX13_unpack 119 = .ok (.iconst 0, 1) := by decide +kernel
theorem dX13_unpack_120 : decode cX13_unpack 120 = .ok (.putfield 269, 3) := by decide +kernel
theorem dX13_unpack_123 : decode cX13_unpack 123 = .ok (.iconst 0, 1) := by decide +kernel
theorem dX13_unpack_124 : decode cX13_unpack 124 = .ok (.istore 8, 2) := by decide +kernel
theorem dX13_unpack_126 : decode cX13_unpack 126 = .ok (.iload 8, 2) := by decide +kernel
theorem dX13_unpack_128 : decode cX13_unpack 128 = .ok (.ifCond .ne 158, 3) := by decide +kernel
theorem dX13_unpack_131 : decode cX13_unpack 131 = .ok (.aload_n 0, 1) := by decide +kernel
theorem dX13_unpack_132 : decode cX13_unpack 132 = .ok (.getfield 269, 3) := by decide +kernel
theorem dX13_unpack_135 : decode cX13_unpack 135 = .ok (.ifCond .ne 151, 3) := by decide +kernel
theorem dX13_unpack_138 : decode cX13_unpack 138 = .ok (.aload_n 0, 1) := by decide +kernel
theorem dX13_unpack_139 : decode cX13_unpack 139 = .ok (.invokevirtual 285, 3) := by decide +kernel
theorem dX13_unpack_142 : decode cX13_unpack 142 = .ok (.iconst 1, 1) := by decide +kernel
theorem dX13_unpack_143 : decode cX13_unpack 143 = .ok (.if_icmp .ne 7, 3) := by decide +kernel
theorem dX13_unpack_146 : decode cX13_unpack 146 = .ok (.iconst 1, 1) := by decide +kernel
theorem dX13_unpack_147 : decode cX13_unpack 147 = .ok (.goto 4, 3) := by decide +kernel
theorem dX13_unpack_150 : decode cX13_unpack 150 = .ok (.iconst 0, 1) := by decide +kernel
theorem dX13_unpack_151 : decode cX13_unpack 151 = .ok (.istore 8, 2) := by decide +kernel
theorem dX13_unpack_153 : decode cX13_unpack 153 = .ok (.aload_n 0, 1) := by decide +kernel
theorem dX13_unpack_154 : decode cX13_unpack 154 = .ok (.iconst 2, 1) := by decide +kernel
theorem dX13_unpack_155 : decode cX13_unpack 155 = .ok (.invokevirtual 304, 3) := by decide +kernel
theorem dX13_unpack_158 : decode cX13_unpack 158 = .ok (.istore 9, 2) := by decide +kernel
theorem dX13_unpack_160 : decode cX13_unpack 160 = .ok (.aload_n 0, 1) := by decide +kernel
theorem dX13_unpack_161 : decode cX13_unpack 161 = .ok (.aload_n 0, 1) := by decide +kernel
theorem dX13_unpack_162 : decode cX13_unpack 162 = .ok (.getfield 269, 3) := by decide +kernel
theorem dX13_unpack_165 : decode cX13_unpack 165 = .ok (.ifCond .ne 9, 3) := by decide +kernel
theorem dX13_unpack_168 : decode cX13_unpack 168 = .ok (.iload 9, 2) := by decide +kernel
theorem dX13_unpack_170 : decode cX13_unpack 170 = .ok (.iconst 3, 1) := by decide +kernel
theorem dX13_unpack_171 : decode cX13_unpack 171 = .ok (.if_icmp .ne 7, 3) := by decide +kernel
theorem dX13_unpack_174 : decode cX13_unpack 174 = .ok (.iconst 1, 1) := by decide +kernel
theorem dX13_unpack_175 : decode cX13_unpack 175 = .ok (.goto 4, 3) := by decide +kernel
theorem dX13_unpack_178 : decode cX13_unpack 178 = .ok (.iconst 0, 1) := by decide +kernel
theorem dX13_unpack_179 : decode cX13_unpack 179 = .ok (.putfield 269, 3) := by decide +kernel
theorem dX13_unpack_182 : decode cX13_unpack 182 = .ok (.iload 9, 2) := by decide +kernel
theorem dX13_unpack_184 : decode cX13_unpack 184 = .ok (.ifCond .ne 10, 3) := by decide +kernel
theorem dX13_unpack_187 : decode cX13_unpack 187 = .ok (.aload_n 0, 1) := by decide +kernel
theorem dX13_unpack_188 : decode cX13_unpack 188 = .ok (.invokevirtual 318, 3) := by decide +kernel
theorem dX13_unpack_191 : decode cX13_unpack 191 = .ok (.goto 92, 3) := by decide +kernel
theorem dX13_unpack_194 : decode cX13_unpack 194 = .ok (.iload 9, 2) := by decide +kernel
theorem dX13_unpack_196 : decode cX13_unpack 196 = .ok (.iconst 1, 1) := by decide +kernel
theorem dX13_unpack_197 : decode cX13_unpack 197 = .ok (.if_icmp .ne 69, 3) := by decide +kernel
theorem dX13_unpack_200 : decode cX13_unpack 200 = .ok (.aload_n 0, 1) := by decide +kernel
theorem dX13_unpack_201 : decode cX13_unpack 201 = .ok (.invokevirtual 240, 3) := by decide +kernel
theorem dX13_unpack_204 : decode cX13_unpack 204 = .ok (.aload_n 0, 1) := by decide +kernel
theorem dX13_unpack_205 : decode cX13_unpack 205 = .ok (.getfield 126, 3) := by decide +kernel
theorem dX13_unpack_208 : decode cX13_unpack 208 = .ok (.aload_n 0, 1) := by decide +kernel
theorem dX13_unpack_209 : decode cX13_unpack 209 = .ok (.getfield 96, 3) := by decide +kernel
theorem dX13_unpack_212 : decode cX13_unpack 212 = .ok (.iconst 0, 1) := by decide +kernel
theorem dX13_unpack_213 : decode cX13_unpack 213 = .ok (.sipush 288, 3) := by decide +kernel
theorem dX13_unpack_216 : decode cX13_unpack 216 = .ok (.iconst 0, 1) := by decide +kernel
theorem dX13_unpack_217 : decode cX13_unpack 217 = .ok (.invokevirtual 310, 3) := by decide +kernel
theorem dX13_unpack_220 : decode cX13_unpack 220 = .ok (.ifCond .eq 27, 3) := by decide +kernel
theorem dX13_unpack_223 : decode cX13_unpack 223 = .ok (.aload_n 0, 1) := by decide +kernel
theorem dX13_unpack_224 : decode cX13_unpack 224 = .ok (.getfield 130, 3) := by decide +kernel
theorem dX13_unpack_227 : decode cX13_unpack 227 = .ok (.aload_n 0, 1) := by decide +kernel
theorem dX13_unpack_228 : decode cX13_unpack 228 = .ok (.getfield 96, 3) := by decide +kernel
theorem dX13_unpack_231 : decode cX13_unpack 231 = .ok (.sipush 288, 3) := by decide +kernel
theorem dX13_unpack_234 : decode cX13_unpack 234 = .ok (.bipush 32, 2) := by decide +kernel
theorem dX13_unpack_236 : decode cX13_unpack 236 = .ok (.iconst 0, 1) := by decide +kernel
theorem dX13_unpack_237 : decode cX13_unpack 237 = .ok (.invokevirtual 310, 3) := by decide +kernel
theorem dX13_unpack_240 : decode cX13_unpack 240 = .ok (.ifCond .eq 7, 3) := by decide +kernel
theorem dX13_unpack_243 : decode cX13_unpack 243 = .ok (.iconst 1, 1) := by decide +kernel
theorem dX13_unpack_244 : decode cX13_unpack 244 = .ok (.goto 4, 3) := by decide +kernel
theorem dX13_unpack_247 : decode cX13_unpack 247 = .ok (.iconst 0, 1) := by decide +kernel
theorem dX13_unpack_248 : decode cX13_unpack 248 = .ok (.istore 10, 2) := by decide +kernel
theorem dX13_unpack_250 : decode cX13_unpack 250 = .ok (.aload_n 0, 1) := by decide +kernel
theorem dX13_unpack_251 : decode cX13_unpack 251 = .ok (.sipush 256, 3) := by decide +kernel
theorem dX13_unpack_254 : decode cX13_unpack 254 = .ok (.iload 6, 2) := by decide +kernel
theorem dX13_unpack_256 : decode cX13_unpack 256 = .ok (.bipush 16, 2) := by decide +kernel
theorem dX13_unpack_258 : decode cX13_unpack 258 = .ok (.idiv, 1) := by decide +kernel
theorem dX13_unpack_259 : decode cX13_unpack 259 = .ok (.ishl, 1) := by decide +kernel
theorem dX13_unpack_260 : decode cX13_unpack 260 = .ok (.invokevirtual 321, 3) := by decide +kernel
theorem dX13_unpack_263 : decode cX13_unpack 263 = .ok (.goto 20, 3) := by decide +kernel
theorem dX13_unpack_266 : decode cX13_unpack 266 = .ok (.aload_n 0, 1) := by decide +kernel
theorem dX13_unpack_267 : decode cX13_unpack 267 = .ok (.invokevirtual 324, 3) := by decide +kernel
theorem dX13_unpack_270 : decode cX13_unpack 270 = .ok (.aload_n 0, 1) := by decide +kernel
theorem dX13_unpack_271 : decode cX13_unpack 271 = .ok (.sipush 256, 3) := by decide +kernel
theorem dX13_unpack_274 : decode cX13_unpack 274 = .ok (.iload 6, 2) := by decide +kernel
theorem dX13_unpack_276 : decode cX13_unpack 276 = .ok (.bipush 16, 2) := by decide +kernel
theorem dX13_unpack_278 : decode cX13_unpack 278 = .ok (.idiv, 1) := by decide +kernel
theorem dX13_unpack_279 : decode cX13_unpack 279 = .ok (.ishl, 1) := by decide +kernel
theorem dX13_unpack_280 : decode cX13_unpack 280 = .ok (.invokevirtual 321, 3) := by decide +kernel
theorem dX13_unpack_283 : decode cX13_unpack 283 = .ok (.goto (-157), 3) := by decide +kernel
theorem dX13_unpack_286 : decode cX13_unpack 286 = .ok (.aload_n 0, 1) := by decide +kernel
theorem dX13_unpack_287 : decode cX13_unpack 287 = .ok (.invokevirtual 301, 3) := by decide +kernel
theorem dX13_unpack_290 : decode cX13_unpack 290 = .ok (.lconst 0, 1) := by decide +kernel
theorem dX13_unpack_291 : decode cX13_unpack 291 = .ok (.lstore 9, 2) := by decide +kernel
theorem dX13_unpack_293 : decode cX13_unpack 293 = .ok (.iconst 0, 1) := by decide +kernel
theorem dX13_unpack_294 : decode cX13_unpack 294 = .ok (.istore 11, 2) := by decide +kernel
theorem dX13_unpack_296 : decode cX13_unpack 296 = .ok (.iload 11, 2) := by decide +kernel
theorem dX13_unpack_298 : decode cX13_unpack 298 = .ok (.iconst 4, 1) := by decide +kernel
theorem dX13_unpack_299 : decode cX13_unpack 299 = .ok (.if_icmp .ge 25, 3) := by decide +kernel
theorem dX13_unpack_302 : decode cX13_unpack 302 = .ok (.ldc2_w 327, 3) := by decide +kernel
theorem dX13_unpack_305 : decode cX13_unpack 305 = .ok (.lload 9, 2) := by decide +kernel
theorem dX13_unpack_307 : decode cX13_unpack 307 = .ok (.lmul, 1) := by decide +kernel
theorem dX13_unpack_308 : decode cX13_unpack 308 = .ok (.aload_n 0, 1) := by decide +kernel
theorem dX13_unpack_309 : decode cX13_unpack 309 = .ok (.bipush 8, 2) := by decide +kernel
theorem dX13_unpack_311 : decode cX13_unpack 311 = .ok (.invokevirtual 304, 3) := by decide +kernel
theorem dX13_unpack_314 : decode cX13_unpack 314 = .ok (.i2l, 1) := by decide +kernel
theorem dX13_unpack_315 : decode cX13_unpack 315 = .ok (.ladd, 1) := by decide +kernel
theorem dX13_unpack_316 : decode cX13_unpack 316 = .ok (.lstore 9, 2) := by decide +kernel
theorem dX13_unpack_318 : decode cX13_unpack 318 = .ok (.iinc 11 1, 3) := by decide +kernel
theorem dX13_unpack_321 : decode cX13_unpack 321 = .ok (.goto (-25), 3) := by decide +kernel
theorem dX13_unpack_324 : decode cX13_unpack 324 = .ok (.aload_n 0, 1) := by decide +kernel
theorem dX13_unpack_325 : decode cX13_unpack 325 = .ok (.getfield 269, 3) := by decide +kernel
theorem dX13_unpack_328 : decode cX13_unpack 328 = .ok (.ifCond .ne 30, 3) := by decide +kernel
theorem dX13_unpack_331 : decode cX13_unpack 331 = .ok (.aload_n 0, 1) := by decide +kernel
theorem dX13_unpack_332 : decode cX13_unpack 332 = .ok (.getfield 273, 3) := by decide +kernel
theorem dX13_unpack_335 : decode cX13_unpack 335 = .ok (.aload_n 0, 1) := by decide +kernel
theorem dX13_unpack_336 : decode cX13_unpack 336 = .ok (.getfield 276, 3) := by decide +kernel
theorem dX13_unpack_339 : decode cX13_unpack 339 = .ok (.if_icmp .ne 19, 3) := by decide +kernel
theorem dX13_unpack_342 : decode cX13_unpack 342 = .ok (.lload 9, 2) := by decide +kernel
theorem dX13_unpack_344 : decode cX13_unpack 344 = .ok (.aload 4, 2) := by decide +kernel
theorem dX13_unpack_346 : decode cX13_unpack 346 = .ok (.iconst 0, 1) := by decide +kernel
theorem dX13_unpack_347 : decode cX13_unpack 347 = .ok (.aload_n 0, 1) := by decide +kernel
theorem dX13_unpack_348 : decode cX13_unpack 348 = .ok (.getfield 292, 3) := by decide +kernel
theorem dX13_unpack_351 : decode cX13_unpack 351 = .ok (.invokestatic 263, 3) := by decide +kernel
theorem dX13_unpack_354 : decode cX13_unpack 354 = .ok (.lcmp, 1) := by decide +kernel
theorem dX13_unpack_355 : decode cX13_unpack 355 = .ok (.ifCond .eq 7, 3) := by decide +kernel
theorem dX13_unpack_358 : decode cX13_unpack 358 = .ok (.iconst (-1), 1) := by decide +kernel
theorem dX13_unpack_359 : decode cX13_unpack 359 = .ok (.goto 7, 3) := by decide +kernel
theorem dX13_unpack_362 : decode cX13_unpack 362 = .ok (.aload_n 0, 1) := by decide +kernel
theorem dX13_unpack_363 : decode cX13_unpack 363 = .ok (.getfield 292, 3) := by decide +kernel
theorem dX13_unpack_366 : decode cX13_unpack 366 = .ok (.ireturn, 1) := by decide +kernel
theorem dX13_add_0 : decode cX13_add 0 = .ok (.aload_n 0, 1) := by decide +kernel
theorem dX13_add_1 : decode cX13_add 1 = .ok (.getfield 62, 3) := by decide +kernel
theorem dX13_add_4 : decode cX13_add 4 = .ok (.aload_n 0, 1) := by decide +kernel
theorem dX13_add_5 : decode cX13_add 5 = .ok (.getfield 329, 3) := by decide +kernel
theorem dX13_add_8 : decode cX13_add 8 = .ok (.iload_n 1, 1) := by decide +kernel
theorem dX13_add_9 : decode cX13_add 9 = .ok (.i2b, 1) := by decide +kernel
theorem dX13_add_10 : decode cX13_add 10 = .ok (.bastore, 1) := by decide +kernel
theorem dX13_add_11 : decode cX13_add 11 = .ok (.aload_n 0, 1) := by decide +kernel
theorem dX13_add_12 : decode cX13_add 12 = .ok (.dup, 1) := by decide +kernel
theorem dX13_add_13 : decode cX13_add 13 = .ok (.getfield 329, 3) := by decide +kernel
theorem dX13_add_16 : decode cX13_add 16 = .ok (.iconst 1, 1) := by decide +kernel
theorem dX13_add_17 : decode cX13_add 17 = .ok (.iadd, 1) := by decide +kernel
theorem dX13_add_18 : decode cX13_add 18 = .ok (.putfield 329, 3) := by decide +kernel
theorem dX13_add_21 : decode cX13_add 21 = .ok (.return_, 1) := by decide +kernel
theorem dX13_store_0 : decode cX13_store 0 = .ok (.aload_n 0, 1) := by decide +kernel
theorem dX13_store_1 : decode cX13_store 1 = .ok (.getfield 332, 3) := by decide +kernel
theorem dX13_store_4 : decode cX13_store 4 = .ok (.ifCond .eq 13, 3) := by decide +kernel
theorem dX13_store_7 : decode cX13_store 7 = .ok (.aload_n 0, 1) := by decide +kernel
theorem dX13_store_8 : decode cX13_store 8 = .ok (.aload_n 1, 1) := by decide +kernel
theorem dX13_store_9 : decode cX13_store 9 = .ok (.iload_n 2, 1) := by decide +kernel
theorem dX13_store_10 : decode cX13_store 10 = .ok (.iload_n 3, 1) := by decide +kernel
theorem dX13_store_11 : decode cX13_store 11 = .ok (.invokevirtual 335, 3) := by decide +kernel
theorem dX13_store_14 : decode cX13_store 14 = .ok (.goto 4, 3) := by decide +kernel
theorem dX13_store_17 : decode cX13_store 17 = .ok (.iload_n 3, 1) := by decide +kernel
theorem dX13_store_18 : decode cX13_store 18 = .ok (.istore 4, 2) := by decide +kernel
theorem dX13_store_20 : decode cX13_store 20 = .ok (.iconst 0, 1) := by decide +kernel
theorem dX13_store_21 : decode cX13_store 21 = .ok (.istore 5, 2) := by decide +kernel
theorem dX13_store_23 : decode cX13_store 23 = .ok (.iload 5, 2) := by decide +kernel
theorem dX13_store_25 : decode cX13_store 25 = .ok (.iload 4, 2) := by decide +kernel
theorem dX13_store_27 : decode cX13_store 27 = .ok (.iload_n 3, 1) := by decide +kernel
theorem dX13_store_28 : decode cX13_store 28 = .ok (.if_icmp .ge 8, 3) := by decide +kernel
theorem dX13_store_31 : decode cX13_store 31 = .ok (.iload 4, 2) := by decide +kernel
theorem dX13_store_33 : decode cX13_store 33 = .ok (.goto 4, 3) := by decide +kernel
theorem dX13_store_36 : decode cX13_store 36 = .ok (.iload_n 3, 1) := by decide +kernel
theorem dX13_store_37 : decode cX13_store 37 = .ok (.if_icmp .ge 35, 3) := by decide +kernel
theorem dX13_store_40 : decode cX13_store 40 = .ok (.aload_n 0, 1) := by decide +kernel
theorem dX13_store_41 : decode cX13_store 41 = .ok (.iload 4, 2) := by decide +kernel
theorem dX13_store_43 : decode cX13_store 43 = .ok (.iload_n 3, 1) := by decide +kernel
theorem dX13_store_44 : decode cX13_store 44 = .ok (.if_icmp .ge 13, 3) := by decide +kernel
theorem dX13_store_47 : decode cX13_store 47 = .ok (.aload_n 0, 1) := by decide +kernel
theorem dX13_store_48 : decode cX13_store 48 = .ok (.getfield 75, 3) := by decide +kernel
theorem dX13_store_51 : decode cX13_store 51 = .ok (.iload 5, 2) := by decide +kernel
theorem dX13_store_53 : decode cX13_store 53 = .ok (.baload, 1) := by decide +kernel
theorem dX13_store_54 : decode cX13_store 54 = .ok (.goto 9, 3) := by decide +kernel
theorem dX13_store_57 : decode cX13_store 57 = .ok (.aload_n 1, 1) := by decide +kernel
theorem dX13_store_58 : decode cX13_store 58 = .ok (.iload_n 2, 1) := by decide +kernel
theorem dX13_store_59 : decode cX13_store 59 = .ok (.iload 5, 2) := by decide +kernel
theorem dX13_store_61 : decode cX13_store 61 = .ok (.iadd, 1) := by decide +kernel
theorem dX13_store_62 : decode cX13_store 62 = .ok (.baload, 1) := by decide +kernel
theorem dX13_store_63 : decode cX13_store 63 = .ok (.invokevirtual 339, 3) := by decide +kernel
theorem dX13_store_66 : decode cX13_store 66 = .ok (.iinc 5 1, 3) := by decide +kernel
theorem dX13_store_69 : decode cX13_store 69 = .ok (.goto (-46), 3) := by decide +kernel
theorem dX13_store_72 : decode cX13_store 72 = .ok (.iload 4, 2) := by decide +kernel
theorem dX13_store_74 : decode cX13_store 74 = .ok (.iload_n 3, 1) := by decide +kernel
theorem dX13_store_75 : decode cX13_store 75 = .ok (.if_icmp .ge 8, 3) := by decide +kernel
theorem dX13_store_78 : decode cX13_store 78 = .ok (.iload 4, 2) := by decide +kernel
theorem dX13_store_80 : decode cX13_store 80 = .ok (.goto 8, 3) := by decide +kernel
theorem dX13_store_83 : decode cX13_store 83 = .ok (.iload_n 3, 1) := by decide +kernel
theorem dX13_store_84 : decode cX13_store 84 = .ok (.ldc_w 342, 3) := by decide +kernel
theorem dX13_store_87 : decode cX13_store 87 = .ok (.ior, 1) := by decide +kernel
theorem dX13_store_88 : decode cX13_store 88 = .ok (.ireturn, 1) := by decide +kernel
theorem dX13_closeFragment_0 : decode cX13_closeFragment 0 = .ok (.aload_n 0, 1) := by decide +kernel
theorem dX13_closeFragment_1 : decode cX13_closeFragment 1 = .ok (.getfield 343, 3) := by decide +kernel
theorem dX13_closeFragment_4 : decode cX13_closeFragment 4 = .ok (.ifCond .le 53, 3) := by decide +kernel
theorem dX13_closeFragment_7 : decode cX13_closeFragment 7 = .ok (.aload_n 0, 1) := by decide +kernel
theorem dX13_closeFragment_8 : decode cX13_closeFragment 8 = .ok (.getfield 52, 3) := by decide +kernel
theorem dX13_closeFragment_11 : decode cX13_closeFragment 11 = .ok (.aload_n 0, 1) := by decide +kernel
theorem dX13_closeFragment_12 : decode cX13_closeFragment 12 = .ok (.getfield 346, 3) := by decide +kernel
theorem dX13_closeFragment_15 : decode cX13_closeFragment 15 = .ok (.aload_n 0, 1) := by decide +kernel
theorem dX13_closeFragment_16 : decode cX13_closeFragment 16 = .ok (.getfield 329, 3) := by decide +kernel
theorem dX13_closeFragment_19 : decode cX13_closeFragment 19 = .ok (.iastore, 1) := by decide +kernel
theorem dX13_closeFragment_20 : decode cX13_closeFragment 20 = .ok (.aload_n 0, 1) := by decide +kernel
theorem dX13_closeFragment_21 : decode cX13_closeFragment 21 = .ok (.getfield 55, 3) := by decide +kernel
theorem dX13_closeFragment_24 : decode cX13_closeFragment 24 = .ok (.aload_n 0, 1) := by decide +kernel
theorem dX13_closeFragment_25 : decode cX13_closeFragment 25 = .ok (.getfield 346, 3) := by decide +kernel
theorem dX13_closeFragment_28 : decode cX13_closeFragment 28 = .ok (.aload_n 0, 1) := by decide +kernel
theorem dX13_closeFragment_29 : decode cX13_closeFragment 29 = .ok (.aload_n 0, 1) := by decide +kernel
theorem dX13_closeFragment_30 : decode cX13_closeFragment 30 = .ok (.getfield 58, 3) := by decide +kernel
theorem dX13_closeFragment_33 : decode cX13_closeFragment 33 = .ok (.iconst 0, 1) := by decide +kernel
theorem dX13_closeFragment_34 : decode cX13_closeFragment 34 = .ok (.aload_n 0, 1) := by decide +kernel
theorem dX13_closeFragment_35 : decode cX13_closeFragment 35 = .ok (.getfield 343, 3) := by decide +kernel
theorem dX13_closeFragment_38 : decode cX13_closeFragment 38 = .ok (.invokevirtual 349, 3) := by decide +kernel
theorem dX13_closeFragment_41 : decode cX13_closeFragment 41 = .ok (.iastore, 1) := by decide +kernel
theorem dX13_closeFragment_42 : decode cX13_closeFragment 42 = .ok (.aload_n 0, 1) := by decide +kernel
theorem dX13_closeFragment_43 : decode cX13_closeFragment 43 = .ok (.dup, 1) := by decide +kernel
theorem dX13_closeFragment_44 : decode cX13_closeFragment 44 = .ok (.getfield 346, 3) := by decide +kernel
theorem dX13_closeFragment_47 : decode cX13_closeFragment 47 = .ok (.iconst 1, 1) := by decide +kernel
theorem dX13_closeFragment_48 : decode cX13_closeFragment 48 = .ok (.iadd, 1) := by decide +kernel
theorem dX13_closeFragment_49 : decode cX13_closeFragment 49 = .ok (.putfield 346, 3) := by decide +kernel
theorem dX13_closeFragment_52 : decode cX13_closeFragment 52 = .ok (.aload_n 0, 1) := by decide +kernel
theorem dX13_closeFragment_53 : decode cX13_closeFragment 53 = .ok (.iconst 0, 1) := by decide +kernel
theorem dX13_closeFragment_54 : decode cX13_closeFragment 54 = .ok (.putfield 343, 3) := by decide +kernel
theorem dX13_closeFragment_57 : decode cX13_closeFragment 57 = .ok (.return_, 1) := by decide +kernel
theorem dX13_twin_0 : decode cX13_twin 0 = .ok (.iconst 0, 1) := by decide +kernel
theorem dX13_twin_1 : decode cX13_twin 1 = .ok (.istore_n 2, 1) := by decide +kernel
theorem dX13_twin_2 : decode cX13_twin 2 = .ok (.iload_n 2, 1) := by decide +kernel
theorem dX13_twin_3 : decode cX13_twin 3 = .ok (.iload_n 1, 1) := by decide +kernel
theorem dX13_twin_4 : decode cX13_twin 4 = .ok (.if_icmp .ge 106, 3) := by decide +kernel
theorem dX13_twin_7 : decode cX13_twin 7 = .ok (.aload_n 0, 1) := by decide +kernel
theorem dX13_twin_8 : decode cX13_twin 8 = .ok (.getfield 17, 3) := by decide +kernel
theorem dX13_twin_11 : decode cX13_twin 11 = .ok (.iload_n 1, 1) := by decide +kernel
theorem dX13_twin_12 : decode cX13_twin 12 = .ok (.iaload, 1) := by decide +kernel
theorem dX13_twin_13 : decode cX13_twin 13 = .ok (.ifCond .le 97, 3) := by decide +kernel
theorem dX13_twin_16 : decode cX13_twin 16 = .ok (.aload_n 0, 1) := by decide +kernel
theorem dX13_twin_17 : decode cX13_twin 17 = .ok (.getfield 17, 3) := by decide +kernel
theorem dX13_twin_20 : decode cX13_twin 20 = .ok (.iload_n 2, 1) := by decide +kernel
theorem dX13_twin_21 : decode cX13_twin 21 = .ok (.iaload, 1) := by decide +kernel
theorem dX13_twin_22 : decode cX13_twin 22 = .ok (.aload_n 0, 1) := by decide +kernel
theorem dX13_twin_23 : decode cX13_twin 23 = .ok (.getfield 17, 3) := by decide +kernel
theorem dX13_twin_26 : decode cX13_twin 26 = .ok (.iload_n 1, 1) := by decide +kernel
theorem dX13_twin_27 : decode cX13_twin 27 = .ok (.iaload, 1) := by decide +kernel
theorem dX13_twin_28 : decode cX13_twin 28 = .ok (.if_icmp .ne 7, 3) := by decide +kernel
theorem dX13_twin_31 : decode cX13_twin 31 = .ok (.iconst 1, 1) := by decide +kernel
theorem dX13_twin_32 : decode cX13_twin 32 = .ok (.goto 4, 3) := by decide +kernel
theorem dX13_twin_35 : decode cX13_twin 35 = .ok (.iconst 0, 1) := by decide +kernel
theorem dX13_twin_36 : decode cX13_twin 36 = .ok (.istore_n 3, 1) := by decide +kernel
theorem dX13_twin_37 : decode cX13_twin 37 = .ok (.iconst 0, 1) := by decide +kernel
theorem dX13_twin_38 : decode cX13_twin 38 = .ok (.istore 4, 2) := by decide +kernel
theorem dX13_twin_40 : decode cX13_twin 40 = .ok (.iload 4, 2) := by decide +kernel
theorem dX13_twin_42 : decode cX13_twin 42 = .ok (.aload_n 0, 1) := by decide +kernel
theorem dX13_twin_43 : decode cX13_twin 43 = .ok (.getfield 17, 3) := by decide +kernel
theorem dX13_twin_46 : decode cX13_twin 46 = .ok (.iload_n 1, 1) := by decide +kernel
theorem dX13_twin_47 : decode cX13_twin 47 = .ok (.iaload, 1) := by decide +kernel
theorem dX13_twin_48 : decode cX13_twin 48 = .ok (.if_icmp .ge 50, 3) := by decide +kernel
theorem dX13_twin_51 : decode cX13_twin 51 = .ok (.iload_n 3, 1) := by decide +kernel
theorem dX13_twin_52 : decode cX13_twin 52 = .ok (.ifCond .eq 46, 3) := by decide +kernel
theorem dX13_twin_55 : decode cX13_twin 55 = .ok (.aload_n 0, 1) := by decide +kernel
theorem dX13_twin_56 : decode cX13_twin 56 = .ok (.getfield 21, 3) := by decide +kernel
theorem dX13_twin_59 : decode cX13_twin 59 = .ok (.aload_n 0, 1) := by decide +kernel
theorem dX13_twin_60 : decode cX13_twin 60 = .ok (.getfield 13, 3) := by decide +kernel
theorem dX13_twin_63 : decode cX13_twin 63 = .ok (.iload_n 2, 1) := by decide +kernel
theorem dX13_twin_64 : decode cX13_twin 64 = .ok (.iaload, 1) := by decide +kernel
theorem dX13_twin_65 : decode cX13_twin 65 = .ok (.iload 4, 2) := by decide +kernel
theorem dX13_twin_67 : decode cX13_twin 67 = .ok (.iadd, 1) := by decide +kernel
theorem dX13_twin_68 : decode cX13_twin 68 = .ok (.baload, 1) := by decide +kernel
theorem dX13_twin_69 : decode cX13_twin 69 = .ok (.aload_n 0, 1) := by decide +kernel
theorem dX13_twin_70 : decode cX13_twin 70 = .ok (.getfield 21, 3) := by decide +kernel
theorem dX13_twin_73 : decode cX13_twin 73 = .ok (.aload_n 0, 1) := by decide +kernel
theorem dX13_twin_74 : decode cX13_twin 74 = .ok (.getfield 13, 3) := by decide +kernel
theorem dX13_twin_77 : decode cX13_twin 77 = .ok (.iload_n 1, 1) := by decide +kernel
theorem dX13_twin_78 : decode cX13_twin 78 = .ok (.iaload, 1) := by decide +kernel
theorem dX13_twin_79 : decode cX13_twin 79 = .ok (.iload 4, 2) := by decide +kernel
theorem dX13_twin_81 : decode cX13_twin 81 = .ok (.iadd, 1) := by decide +kernel
theorem dX13_twin_82 : decode cX13_twin 82 = .ok (.baload, 1) := by decide +kernel
theorem dX13_twin_83 : decode cX13_twin 83 = .ok (.if_icmp .ne 7, 3) := by decide +kernel
theorem dX13_twin_86 : decode cX13_twin 86 = .ok (.iconst 1, 1) := by decide +kernel
theorem dX13_twin_87 : decode cX13_twin 87 = .ok (.goto 4, 3) := by decide +kernel
theorem dX13_twin_90 : decode cX13_twin 90 = .ok (.iconst 0, 1) := by decide +kernel
theorem dX13_twin_91 : decode cX13_twin 91 = .ok (.istore_n 3, 1) := by decide +kernel
theorem dX13_twin_92 : decode cX13_twin 92 = .ok (.iinc 4 1, 3) := by decide +kernel
theorem dX13_twin_95 : decode cX13_twin 95 = .ok (.goto (-55), 3) := by decide +kernel
theorem dX13_twin_98 : decode cX13_twin 98 = .ok (.iload_n 3, 1) := by decide +kernel
theorem dX13_twin_99 : decode cX13_twin 99 = .ok (.ifCond .eq 5, 3) := by decide +kernel
theorem dX13_twin_102 : decode cX13_twin 102 = .ok (.iload_n 2, 1) := by decide +kernel
theorem dX13_twin_103 : decode cX13_twin 103 = .ok (.ireturn, 1) := by decide +kernel
theorem dX13_twin_104 : decode cX13_twin 104 = .ok (.iinc 2 1, 3) := by decide +kernel
theorem dX13_twin_107 : decode cX13_twin 107 = .ok (.goto (-105), 3) := by decide +kernel
theorem dX13_twin_110 : decode cX13_twin 110 = .ok (.iconst (-1), 1) := by decide +kernel
theorem dX13_twin_111 : decode cX13_twin 111 = .ok (.ireturn, 1) := by decide +kernel
theorem dX13_putBlock_0 : decode cX13_putBlock 0 = .ok (.iconst 1, 1) := by decide +kernel
theorem dX13_putBlock_1 : decode cX13_putBlock 1 = .ok (.istore 4, 2) := by decide +kernel
theorem dX13_putBlock_3 : decode cX13_putBlock 3 = .ok (.iconst 0, 1) := by decide +kernel
theorem dX13_putBlock_4 : decode cX13_putBlock 4 = .ok (.istore 5, 2) := by decide +kernel
theorem dX13_putBlock_6 : decode cX13_putBlock 6 = .ok (.iload 5, 2) := by decide +kernel
theorem dX13_putBlock_8 : decode cX13_putBlock 8 = .ok (.iload_n 3, 1) := by decide +kernel
theorem dX13_putBlock_9 : decode cX13_putBlock 9 = .ok (.if_icmp .ge 33, 3) := by decide +kernel
theorem dX13_putBlock_12 : decode cX13_putBlock 12 = .ok (.iload 4, 2) := by decide +kernel
theorem dX13_putBlock_14 : decode cX13_putBlock 14 = .ok (.ifCond .eq 28, 3) := by decide +kernel
theorem dX13_putBlock_17 : decode cX13_putBlock 17 = .ok (.aload_n 0, 1) := by decide +kernel
theorem dX13_putBlock_18 : decode cX13_putBlock 18 = .ok (.getfield 21, 3) := by decide +kernel
theorem dX13_putBlock_21 : decode cX13_putBlock 21 = .ok (.iload_n 2, 1) := by decide +kernel
theorem dX13_putBlock_22 : decode cX13_putBlock 22 = .ok (.iload 5, 2) := by decide +kernel
theorem dX13_putBlock_24 : decode cX13_putBlock 24 = .ok (.iadd, 1) := by decide +kernel
theorem dX13_putBlock_25 : decode cX13_putBlock 25 = .ok (.baload, 1) := by decide +kernel
theorem dX13_putBlock_26 : decode cX13_putBlock 26 = .ok (.ifCond .ne 7, 3) := by decide +kernel
theorem dX13_putBlock_29 : decode cX13_putBlock 29 = .ok (.iconst 1, 1) := by decide +kernel
theorem dX13_putBlock_30 : decode cX13_putBlock 30 = .ok (.goto 4, 3) := by decide +kernel
theorem dX13_putBlock_33 : decode cX13_putBlock 33 = .ok (.iconst 0, 1) := by decide +kernel
theorem dX13_putBlock_34 : decode cX13_putBlock 34 = .ok (.istore 4, 2) := by decide +kernel
theorem dX13_putBlock_36 : decode cX13_putBlock 36 = .ok (.iinc 5 1, 3) := by decide +kernel
theorem dX13_putBlock_39 : decode cX13_putBlock 39 = .ok (.goto (-33), 3) := by decide +kernel
theorem dX13_putBlock_42 : decode cX13_putBlock 42 = .ok (.aload_n 0, 1) := by decide +kernel
theorem dX13_putBlock_43 : decode cX13_putBlock 43 = .ok (.getfield 46, 3) := by decide +kernel
theorem dX13_putBlock_46 : decode cX13_putBlock 46 = .ok (.iload_n 1, 1) := by decide +kernel
theorem dX13_putBlock_47 : decode cX13_putBlock 47 = .ok (.iload 4, 2) := by decide +kernel
theorem dX13_putBlock_49 : decode cX13_putBlock 49 = .ok (.ifCond .eq 14, 3) := by decide +kernel
theorem dX13_putBlock_52 : decode cX13_putBlock 52 = .ok (.aload_n 0, 1) := by decide +kernel
theorem dX13_putBlock_53 : decode cX13_putBlock 53 = .ok (.getfield 46, 3) := by decide +kernel
theorem dX13_putBlock_56 : decode cX13_putBlock 56 = .ok (.iload_n 1, 1) := by decide +kernel
theorem dX13_putBlock_57 : decode cX13_putBlock 57 = .ok (.iaload, 1) := by decide +kernel
theorem dX13_putBlock_58 : decode cX13_putBlock 58 = .ok (.iload_n 3, 1) := by decide +kernel
theorem dX13_putBlock_59 : decode cX13_putBlock 59 = .ok (.iadd, 1) := by decide +kernel
theorem dX13_putBlock_60 : decode cX13_putBlock 60 = .ok (.goto 9, 3) := by decide +kernel
theorem dX13_putBlock_63 : decode cX13_putBlock 63 = .ok (.aload_n 0, 1) := by decide +kernel
theorem dX13_putBlock_64 : decode cX13_putBlock 64 = .ok (.getfield 46, 3) := by decide +kernel
theorem dX13_putBlock_67 : decode cX13_putBlock 67 = .ok (.iload_n 1, 1) := by decide +kernel
theorem dX13_putBlock_68 : decode cX13_putBlock 68 = .ok (.iaload, 1) := by decide +kernel
theorem dX13_putBlock_69 : decode cX13_putBlock 69 = .ok (.iastore, 1) := by decide +kernel
theorem dX13_putBlock_70 : decode cX13_putBlock 70 = .ok (.aload_n 0, 1) := by decide +kernel
theorem dX13_putBlock_71 : decode cX13_putBlock 71 = .ok (.getfield 49, 3) := by decide +kernel
theorem dX13_putBlock_74 : decode cX13_putBlock 74 = .ok (.aload_n 0, 1) := by decide +kernel
theorem dX13_putBlock_75 : decode cX13_putBlock 75 = .ok (.getfield 352, 3) := by decide +kernel
theorem dX13_putBlock_78 : decode cX13_putBlock 78 = .ok (.iload 4, 2) := by decide +kernel
theorem dX13_putBlock_80 : decode cX13_putBlock 80 = .ok (.ifCond .eq 7, 3) := by decide +kernel
theorem dX13_putBlock_83 : decode cX13_putBlock 83 = .ok (.iconst 0, 1) := by decide +kernel
theorem dX13_putBlock_84 : decode cX13_putBlock 84 = .ok (.goto 13, 3) := by decide +kernel
theorem dX13_putBlock_87 : decode cX13_putBlock 87 = .ok (.aload_n 0, 1) := by decide +kernel
theorem dX13_putBlock_88 : decode cX13_putBlock 88 = .ok (.aload_n 0, 1) := by decide +kernel
theorem dX13_putBlock_89 : decode cX13_putBlock 89 = .ok (.getfield 21, 3) := by decide +kernel
theorem dX13_putBlock_92 : decode cX13_putBlock 92 = .ok (.iload_n 2, 1) := by decide +kernel
theorem dX13_putBlock_93 : decode cX13_putBlock 93 = .ok (.iload_n 3, 1) := by decide +kernel
theorem dX13_putBlock_94 : decode cX13_putBlock 94 = .ok (.invokevirtual 349, 3) := by decide +kernel
theorem dX13_putBlock_97 : decode cX13_putBlock 97 = .ok (.iastore, 1) := by decide +kernel
theorem dX13_putBlock_98 : decode cX13_putBlock 98 = .ok (.aload_n 0, 1) := by decide +kernel
theorem dX13_putBlock_99 : decode cX13_putBlock 99 = .ok (.dup, 1) := by decide +kernel
theorem dX13_putBlock_100 : decode cX13_putBlock 100 = .ok (.getfield 352, 3) := by decide +kernel
theorem dX13_putBlock_103 : decode cX13_putBlock 103 = .ok (.iconst 1, 1) := by decide +kernel
theorem dX13_putBlock_104 : decode cX13_putBlock 104 = .ok (.iadd, 1) := by decide +kernel
theorem dX13_putBlock_105 : decode cX13_putBlock 105 = .ok (.putfield 352, 3) := by decide +kernel
theorem dX13_putBlock_108 : decode cX13_putBlock 108 = .ok (.aload_n 0, 1) := by decide +kernel
theorem dX13_putBlock_109 : decode cX13_putBlock 109 = .ok (.getfield 37, 3) := by decide +kernel
theorem dX13_putBlock_112 : decode cX13_putBlock 112 = .ok (.iload_n 1, 1) := by decide +kernel
theorem dX13_putBlock_113 : decode cX13_putBlock 113 = .ok (.dup2, 1) := by decide +kernel
theorem dX13_putBlock_114 : decode cX13_putBlock 114 = .ok (.iaload, 1) := by decide +kernel
theorem dX13_putBlock_115 : decode cX13_putBlock 115 = .ok (.iconst 1, 1) := by decide +kernel
theorem dX13_putBlock_116 : decode cX13_putBlock 116 = .ok (.iadd, 1) := by decide +kernel
theorem dX13_putBlock_117 : decode cX13_putBlock 117 = .ok (.iastore, 1) := by decide +kernel
theorem dX13_putBlock_118 : decode cX13_putBlock 118 = .ok (.return_, 1) := by decide +kernel
theorem dX13_putFile_0 : decode cX13_putFile 0 = .ok (.aload_n 0, 1) := by decide +kernel
theorem dX13_putFile_1 : decode cX13_putFile 1 = .ok (.getfield 17, 3) := by decide +kernel
theorem dX13_putFile_4 : decode cX13_putFile 4 = .ok (.iload_n 1, 1) := by decide +kernel
theorem dX13_putFile_5 : decode cX13_putFile 5 = .ok (.iaload, 1) := by decide +kernel
theorem dX13_putFile_6 : decode cX13_putFile 6 = .ok (.aload_n 0, 1) := by decide +kernel
theorem dX13_putFile_7 : decode cX13_putFile 7 = .ok (.getfield 24, 3) := by decide +kernel
theorem dX13_putFile_10 : decode cX13_putFile 10 = .ok (.idiv, 1) := by decide +kernel
theorem dX13_putFile_11 : decode cX13_putFile 11 = .ok (.istore_n 2, 1) := by decide +kernel
theorem dX13_putFile_12 : decode cX13_putFile 12 = .ok (.aload_n 0, 1) := by decide +kernel
theorem dX13_putFile_13 : decode cX13_putFile 13 = .ok (.getfield 17, 3) := by decide +kernel
theorem dX13_putFile_16 : decode cX13_putFile 16 = .ok (.iload_n 1, 1) := by decide +kernel
theorem dX13_putFile_17 : decode cX13_putFile 17 = .ok (.iaload, 1) := by decide +kernel
theorem dX13_putFile_18 : decode cX13_putFile 18 = .ok (.aload_n 0, 1) := by decide +kernel
theorem dX13_putFile_19 : decode cX13_putFile 19 = .ok (.getfield 24, 3) := by decide +kernel
theorem dX13_putFile_22 : decode cX13_putFile 22 = .ok (.irem, 1) := by decide +kernel
theorem dX13_putFile_23 : decode cX13_putFile 23 = .ok (.istore_n 3, 1) := by decide +kernel
theorem dX13_putFile_24 : decode cX13_putFile 24 = .ok (.aload_n 0, 1) := by decide +kernel
theorem dX13_putFile_25 : decode cX13_putFile 25 = .ok (.getfield 355, 3) := by decide +kernel
theorem dX13_putFile_28 : decode cX13_putFile 28 = .ok (.ifCond .ne 11, 3) := by decide +kernel
theorem dX13_putFile_31 : decode cX13_putFile 31 = .ok (.iload_n 3, 1) := by decide +kernel
theorem dX13_putFile_32 : decode cX13_putFile 32 = .ok (.ifCond .le 7, 3) := by decide +kernel
theorem dX13_putFile_35 : decode cX13_putFile 35 = .ok (.iconst 1, 1) := by decide +kernel
theorem dX13_putFile_36 : decode cX13_putFile 36 = .ok (.goto 4, 3) := by decide +kernel
theorem dX13_putFile_39 : decode cX13_putFile 39 = .ok (.iconst 0, 1) := by decide +kernel
theorem dX13_putFile_40 : decode cX13_putFile 40 = .ok (.istore 4, 2) := by decide +kernel
theorem dX13_putFile_42 : decode cX13_putFile 42 = .ok (.aload_n 0, 1) := by decide +kernel
theorem dX13_putFile_43 : decode cX13_putFile 43 = .ok (.getfield 34, 3) := by decide +kernel
theorem dX13_putFile_46 : decode cX13_putFile 46 = .ok (.iload_n 1, 1) := by decide +kernel
theorem dX13_putFile_47 : decode cX13_putFile 47 = .ok (.aload_n 0, 1) := by decide +kernel
theorem dX13_putFile_48 : decode cX13_putFile 48 = .ok (.getfield 352, 3) := by decide +kernel
theorem dX13_putFile_51 : decode cX13_putFile 51 = .ok (.iastore, 1) := by decide +kernel
theorem dX13_putFile_52 : decode cX13_putFile 52 = .ok (.aload_n 0, 1) := by decide +kernel
theorem dX13_putFile_53 : decode cX13_putFile 53 = .ok (.getfield 37, 3) := by decide +kernel
theorem dX13_putFile_56 : decode cX13_putFile 56 = .ok (.iload_n 1, 1) := by decide +kernel
theorem dX13_putFile_57 : decode cX13_putFile 57 = .ok (.iconst 0, 1) := by decide +kernel
theorem dX13_putFile_58 : decode cX13_putFile 58 = .ok (.iastore, 1) := by decide +kernel
theorem dX13_putFile_59 : decode cX13_putFile 59 = .ok (.aload_n 0, 1) := by decide +kernel
theorem dX13_putFile_60 : decode cX13_putFile 60 = .ok (.getfield 46, 3) := by decide +kernel
theorem dX13_putFile_63 : decode cX13_putFile 63 = .ok (.iload_n 1, 1) := by decide +kernel
theorem dX13_putFile_64 : decode cX13_putFile 64 = .ok (.iconst 0, 1) := by decide +kernel
theorem dX13_putFile_65 : decode cX13_putFile 65 = .ok (.iastore, 1) := by decide +kernel
theorem dX13_putFile_66 : decode cX13_putFile 66 = .ok (.aload_n 0, 1) := by decide +kernel
theorem dX13_putFile_67 : decode cX13_putFile 67 = .ok (.getfield 31, 3) := by decide +kernel
theorem dX13_putFile_70 : decode cX13_putFile 70 = .ok (.iload_n 1, 1) := by decide +kernel
theorem dX13_putFile_71 : decode cX13_putFile 71 = .ok (.iload_n 2, 1) := by decide +kernel
theorem dX13_putFile_72 : decode cX13_putFile 72 = .ok (.ifCond .gt 8, 3) := by decide +kernel
theorem dX13_putFile_75 : decode cX13_putFile 75 = .ok (.iload 4, 2) := by decide +kernel
theorem dX13_putFile_77 : decode cX13_putFile 77 = .ok (.ifCond .eq 10, 3) := by decide +kernel
theorem dX13_putFile_80 : decode cX13_putFile 80 = .ok (.aload_n 0, 1) := by decide +kernel
theorem dX13_putFile_81 : decode cX13_putFile 81 = .ok (.getfield 329, 3) := by decide +kernel
theorem dX13_putFile_84 : decode cX13_putFile 84 = .ok (.goto 4, 3) := by decide +kernel
theorem dX13_putFile_87 : decode cX13_putFile 87 = .ok (.iconst 0, 1) := by decide +kernel
theorem dX13_putFile_88 : decode cX13_putFile 88 = .ok (.iastore, 1) := by decide +kernel
theorem dX13_putFile_89 : decode cX13_putFile 89 = .ok (.aload_n 0, 1) := by decide +kernel
theorem dX13_putFile_90 : decode cX13_putFile 90 = .ok (.getfield 40, 3) := by decide +kernel
theorem dX13_putFile_93 : decode cX13_putFile 93 = .ok (.iload_n 1, 1) := by decide +kernel
theorem dX13_putFile_94 : decode cX13_putFile 94 = .ok (.bipush (-2), 2) := by decide +kernel
theorem dX13_putFile_96 : decode cX13_putFile 96 = .ok (.iastore, 1) := by decide +kernel
theorem dX13_putFile_97 : decode cX13_putFile 97 = .ok (.aload_n 0, 1) := by decide +kernel
theorem dX13_putFile_98 : decode cX13_putFile 98 = .ok (.getfield 43, 3) := by decide +kernel
theorem dX13_putFile_101 : decode cX13_putFile 101 = .ok (.iload_n 1, 1) := by decide +kernel
theorem dX13_putFile_102 : decode cX13_putFile 102 = .ok (.iconst 0, 1) := by decide +kernel
theorem dX13_putFile_103 : decode cX13_putFile 103 = .ok (.iastore, 1) := by decide +kernel
theorem dX13_putFile_104 : decode cX13_putFile 104 = .ok (.iconst 0, 1) := by decide +kernel
theorem dX13_putFile_105 : decode cX13_putFile 105 = .ok (.istore 5, 2) := by decide +kernel
theorem dX13_putFile_107 : decode cX13_putFile 107 = .ok (.iload 5, 2) := by decide +kernel
theorem dX13_putFile_109 : decode cX13_putFile 109 = .ok (.iload_n 2, 1) := by decide +kernel
theorem dX13_putFile_110 : decode cX13_putFile 110 = .ok (.if_icmp .ge 32, 3) := by decide +kernel
theorem dX13_putFile_113 : decode cX13_putFile 113 = .ok (.aload_n 0, 1) := by decide +kernel
theorem dX13_putFile_114 : decode cX13_putFile 114 = .ok (.iload_n 1, 1) := by decide +kernel
theorem dX13_putFile_115 : decode cX13_putFile 115 = .ok (.aload_n 0, 1) := by decide +kernel
theorem dX13_putFile_116 : decode cX13_putFile 116 = .ok (.getfield 13, 3) := by decide +kernel
theorem dX13_putFile_119 : decode cX13_putFile 119 = .ok (.iload_n 1, 1) := by decide +kernel
theorem dX13_putFile_120 : decode cX13_putFile 120 = .ok (.iaload, 1) := by decide +kernel
theorem dX13_putFile_121 : decode cX13_putFile 121 = .ok (.iload 5, 2) := by decide +kernel
theorem dX13_putFile_123 : decode cX13_putFile 123 = .ok (.aload_n 0, 1) := by decide +kernel
theorem dX13_putFile_124 : decode cX13_putFile 124 = .ok (.getfield 24, 3) := by decide +kernel
theorem dX13_putFile_127 : decode cX13_putFile 127 = .ok (.imul, 1) := by decide +kernel
theorem dX13_putFile_128 : decode cX13_putFile 128 = .ok (.iadd, 1) := by decide +kernel
theorem dX13_putFile_129 : decode cX13_putFile 129 = .ok (.aload_n 0, 1) := by decide +kernel
theorem dX13_putFile_130 : decode cX13_putFile 130 = .ok (.getfield 24, 3) := by decide +kernel
theorem dX13_putFile_133 : decode cX13_putFile 133 = .ok (.invokevirtual 358, 3) := by decide +kernel
theorem dX13_putFile_136 : decode cX13_putFile 136 = .ok (.iinc 5 1, 3) := by decide +kernel
theorem dX13_putFile_139 : decode cX13_putFile 139 = .ok (.goto (-32), 3) := by decide +kernel
theorem dX13_putFile_142 : decode cX13_putFile 142 = .ok (.aload_n 0, 1) := by decide +kernel
theorem dX13_putFile_143 : decode cX13_putFile 143 = .ok (.getfield 13, 3) := by decide +kernel
theorem dX13_putFile_146 : decode cX13_putFile 146 = .ok (.iload_n 1, 1) := by decide +kernel
theorem dX13_putFile_147 : decode cX13_putFile 147 = .ok (.iaload, 1) := by decide +kernel
theorem dX13_putFile_148 : decode cX13_putFile 148 = .ok (.iload_n 2, 1) := by decide +kernel
theorem dX13_putFile_149 : decode cX13_putFile 149 = .ok (.aload_n 0, 1) := by decide +kernel
theorem dX13_putFile_150 : decode cX13_putFile 150 = .ok (.getfield 24, 3) := by decide +kernel
theorem dX13_putFile_153 : decode cX13_putFile 153 = .ok (.imul, 1) := by decide +kernel
theorem dX13_putFile_154 : decode cX13_putFile 154 = .ok (.iadd, 1) := by decide +kernel
theorem dX13_putFile_155 : decode cX13_putFile 155 = .ok (.istore 5, 2) := by decide +kernel
theorem dX13_putFile_157 : decode cX13_putFile 157 = .ok (.iload 4, 2) := by decide +kernel
theorem dX13_putFile_159 : decode cX13_putFile 159 = .ok (.ifCond .eq 14, 3) := by decide +kernel
theorem dX13_putFile_162 : decode cX13_putFile 162 = .ok (.aload_n 0, 1) := by decide +kernel
theorem dX13_putFile_163 : decode cX13_putFile 163 = .ok (.iload_n 1, 1) := by decide +kernel
theorem dX13_putFile_164 : decode cX13_putFile 164 = .ok (.iload 5, 2) := by decide +kernel
theorem dX13_putFile_166 : decode cX13_putFile 166 = .ok (.iload_n 3, 1) := by decide +kernel
theorem dX13_putFile_167 : decode cX13_putFile 167 = .ok (.invokevirtual 358, 3) := by decide +kernel
theorem dX13_putFile_170 : decode cX13_putFile 170 = .ok (.goto 88, 3) := by decide +kernel
theorem dX13_putFile_173 : decode cX13_putFile 173 = .ok (.iload_n 3, 1) := by decide +kernel
theorem dX13_putFile_174 : decode cX13_putFile 174 = .ok (.ifCond .le 84, 3) := by decide +kernel
theorem dX13_putFile_177 : decode cX13_putFile 177 = .ok (.aload_n 0, 1) := by decide +kernel
theorem dX13_putFile_178 : decode cX13_putFile 178 = .ok (.getfield 343, 3) := by decide +kernel
theorem dX13_putFile_181 : decode cX13_putFile 181 = .ok (.iload_n 3, 1) := by decide +kernel
theorem dX13_putFile_182 : decode cX13_putFile 182 = .ok (.iadd, 1) := by decide +kernel
theorem dX13_putFile_183 : decode cX13_putFile 183 = .ok (.aload_n 0, 1) := by decide +kernel
theorem dX13_putFile_184 : decode cX13_putFile 184 = .ok (.getfield 24, 3) := by decide +kernel
theorem dX13_putFile_187 : decode cX13_putFile 187 = .ok (.if_icmp .le 7, 3) := by decide +kernel
theorem dX13_putFile_190 : decode cX13_putFile 190 = .ok (.aload_n 0, 1) := by decide +kernel
theorem dX13_putFile_191 : decode cX13_putFile 191 = .ok (.invokevirtual 361, 3) := by decide +kernel
theorem dX13_putFile_194 : decode cX13_putFile 194 = .ok (.aload_n 0, 1) := by decide +kernel
theorem dX13_putFile_195 : decode cX13_putFile 195 = .ok (.getfield 40, 3) := by decide +kernel
theorem dX13_putFile_198 : decode cX13_putFile 198 = .ok (.iload_n 1, 1) := by decide +kernel
theorem dX13_putFile_199 : decode cX13_putFile 199 = .ok (.aload_n 0, 1) := by decide +kernel
theorem dX13_putFile_200 : decode cX13_putFile 200 = .ok (.getfield 346, 3) := by decide +kernel
theorem dX13_putFile_203 : decode cX13_putFile 203 = .ok (.iastore, 1) := by decide +kernel
theorem dX13_putFile_204 : decode cX13_putFile 204 = .ok (.aload_n 0, 1) := by decide +kernel
theorem dX13_putFile_205 : decode cX13_putFile 205 = .ok (.getfield 43, 3) := by decide +kernel
theorem dX13_putFile_208 : decode cX13_putFile 208 = .ok (.iload_n 1, 1) := by decide +kernel
theorem dX13_putFile_209 : decode cX13_putFile 209 = .ok (.aload_n 0, 1) := by decide +kernel
theorem dX13_putFile_210 : decode cX13_putFile 210 = .ok (.getfield 343, 3) := by decide +kernel
theorem dX13_putFile_213 : decode cX13_putFile 213 = .ok (.iastore, 1) := by decide +kernel
theorem dX13_putFile_214 : decode cX13_putFile 214 = .ok (.iconst 0, 1) := by decide +kernel
theorem dX13_putFile_215 : decode cX13_putFile 215 = .ok (.istore 6, 2) := by decide +kernel
theorem dX13_putFile_217 : decode cX13_putFile 217 = .ok (.iload 6, 2) := by decide +kernel
theorem dX13_putFile_219 : decode cX13_putFile 219 = .ok (.iload_n 3, 1) := by decide +kernel
theorem dX13_putFile_220 : decode cX13_putFile 220 = .ok (.if_icmp .ge 38, 3) := by decide +kernel
theorem dX13_putFile_223 : decode cX13_putFile 223 = .ok (.aload_n 0, 1) := by decide +kernel
theorem dX13_putFile_224 : decode cX13_putFile 224 = .ok (.getfield 58, 3) := by decide +kernel
theorem dX13_putFile_227 : decode cX13_putFile 227 = .ok (.aload_n 0, 1) := by decide +kernel
theorem dX13_putFile_228 : decode cX13_putFile 228 = .ok (.getfield 343, 3) := by decide +kernel
theorem dX13_putFile_231 : decode cX13_putFile 231 = .ok (.aload_n 0, 1) := by decide +kernel
theorem dX13_putFile_232 : decode cX13_putFile 232 = .ok (.getfield 21, 3) := by decide +kernel
theorem dX13_putFile_235 : decode cX13_putFile 235 = .ok (.iload 5, 2) := by decide +kernel
theorem dX13_putFile_237 : decode cX13_putFile 237 = .ok (.iload 6, 2) := by decide +kernel
theorem dX13_putFile_239 : decode cX13_putFile 239 = .ok (.iadd, 1) := by decide +kernel
theorem dX13_putFile_240 : decode cX13_putFile 240 = .ok (.baload, 1) := by decide +kernel
theorem dX13_putFile_241 : decode cX13_putFile 241 = .ok (.bastore, 1) := by decide +kernel
theorem dX13_putFile_242 : decode cX13_putFile 242 = .ok (.aload_n 0, 1) := by decide +kernel
theorem dX13_putFile_243 : decode cX13_putFile 243 = .ok (.dup, 1) := by decide +kernel
theorem dX13_putFile_244 : decode cX13_putFile 244 = .ok (.getfield 343, 3) := by decide +kernel
theorem dX13_putFile_247 : decode cX13_putFile 247 = .ok (.iconst 1, 1) := by decide +kernel
theorem dX13_putFile_248 : decode cX13_putFile 248 = .ok (.iadd, 1) := by decide +kernel
theorem dX13_putFile_249 : decode cX13_putFile 249 = .ok (.putfield 343, 3) := by decide +kernel
theorem dX13_putFile_252 : decode cX13_putFile 252 = .ok (.iinc 6 1, 3) := by decide +kernel
theorem dX13_putFile_255 : decode cX13_putFile 255 = .ok (.goto (-38), 3) := by decide +kernel
theorem dX13_putFile_258 : decode cX13_putFile 258 = .ok (.return_, 1) := by decide +kernel
theorem dX13_put_0 : decode cX13_put 0 = .ok (.iload_n 1, 1) := by decide +kernel
theorem dX13_put_1 : decode cX13_put 1 = .ok (.bipush 12, 2) := by decide +kernel
theorem dX13_put_3 : decode cX13_put 3 = .ok (.if_icmp .lt 9, 3) := by decide +kernel
theorem dX13_put_6 : decode cX13_put 6 = .ok (.iload_n 1, 1) := by decide +kernel
theorem dX13_put_7 : decode cX13_put 7 = .ok (.bipush 16, 2) := by decide +kernel
theorem dX13_put_9 : decode cX13_put 9 = .ok (.if_icmp .le 5, 3) := by decide +kernel
theorem dX13_put_12 : decode cX13_put 12 = .ok (.iconst (-1), 1) := by decide +kernel
theorem dX13_put_13 : decode cX13_put 13 = .ok (.ireturn, 1) := by decide +kernel
theorem dX13_put_14 : decode cX13_put 14 = .ok (.aload_n 0, 1) := by decide +kernel
theorem dX13_put_15 : decode cX13_put 15 = .ok (.iconst 1, 1) := by decide +kernel
theorem dX13_put_16 : decode cX13_put 16 = .ok (.iload_n 1, 1) := by decide +kernel
theorem dX13_put_17 : decode cX13_put 17 = .ok (.ishl, 1) := by decide +kernel
theorem dX13_put_18 : decode cX13_put 18 = .ok (.putfield 24, 3) := by decide +kernel
theorem dX13_put_21 : decode cX13_put 21 = .ok (.aload_n 0, 1) := by decide +kernel
theorem dX13_put_22 : decode cX13_put 22 = .ok (.iload_n 2, 1) := by decide +kernel
theorem dX13_put_23 : decode cX13_put 23 = .ok (.putfield 332, 3) := by decide +kernel
theorem dX13_put_26 : decode cX13_put 26 = .ok (.aload_n 0, 1) := by decide +kernel
theorem dX13_put_27 : decode cX13_put 27 = .ok (.iload_n 3, 1) := by decide +kernel
theorem dX13_put_28 : decode cX13_put 28 = .ok (.putfield 355, 3) := by decide +kernel
theorem dX13_put_31 : decode cX13_put 31 = .ok (.aload_n 0, 1) := by decide +kernel
theorem dX13_put_32 : decode cX13_put 32 = .ok (.iconst 0, 1) := by decide +kernel
theorem dX13_put_33 : decode cX13_put 33 = .ok (.putfield 329, 3) := by decide +kernel
theorem dX13_put_36 : decode cX13_put 36 = .ok (.aload_n 0, 1) := by decide +kernel
theorem dX13_put_37 : decode cX13_put 37 = .ok (.iconst 0, 1) := by decide +kernel
theorem dX13_put_38 : decode cX13_put 38 = .ok (.putfield 352, 3) := by decide +kernel
theorem dX13_put_41 : decode cX13_put 41 = .ok (.aload_n 0, 1) := by decide +kernel
theorem dX13_put_42 : decode cX13_put 42 = .ok (.iconst 0, 1) := by decide +kernel
theorem dX13_put_43 : decode cX13_put 43 = .ok (.putfield 346, 3) := by decide +kernel
theorem dX13_put_46 : decode cX13_put 46 = .ok (.aload_n 0, 1) := by decide +kernel
theorem dX13_put_47 : decode cX13_put 47 = .ok (.iconst 0, 1) := by decide +kernel
theorem dX13_put_48 : decode cX13_put 48 = .ok (.putfield 343, 3) := by decide +kernel
theorem dX13_put_51 : decode cX13_put 51 = .ok (.iconst 0, 1) := by decide +kernel
theorem dX13_put_52 : decode cX13_put 52 = .ok (.istore 4, 2) := by decide +kernel
theorem dX13_put_54 : decode cX13_put 54 = .ok (.iload 4, 2) := by decide +kernel
theorem dX13_put_56 : decode cX13_put 56 = .ok (.bipush 64, 2) := by decide +kernel
theorem dX13_put_58 : decode cX13_put 58 = .ok (.if_icmp .ge 129, 3) := by decide +kernel
theorem dX13_put_61 : decode cX13_put 61 = .ok (.aload_n 0, 1) := by decide +kernel
theorem dX13_put_62 : decode cX13_put 62 = .ok (.iload 4, 2) := by decide +kernel
theorem dX13_put_64 : decode cX13_put 64 = .ok (.invokevirtual 364, 3) := by decide +kernel
theorem dX13_put_67 : decode cX13_put 67 = .ok (.istore 5, 2) := by decide +kernel
theorem dX13_put_69 : decode cX13_put 69 = .ok (.aload_n 0, 1) := by decide +kernel
theorem dX13_put_70 : decode cX13_put 70 = .ok (.getfield 28, 3) := by decide +kernel
theorem dX13_put_73 : decode cX13_put 73 = .ok (.iload 4, 2) := by decide +kernel
theorem dX13_put_75 : decode cX13_put 75 = .ok (.aload_n 0, 1) := by decide +kernel
theorem dX13_put_76 : decode cX13_put 76 = .ok (.getfield 17, 3) := by decide +kernel
theorem dX13_put_79 : decode cX13_put 79 = .ok (.iload 4, 2) := by decide +kernel
theorem dX13_put_81 : decode cX13_put 81 = .ok (.iaload, 1) := by decide +kernel
theorem dX13_put_82 : decode cX13_put 82 = .ok (.iastore, 1) := by decide +kernel
theorem dX13_put_83 : decode cX13_put 83 = .ok (.iload 5, 2) := by decide +kernel
theorem dX13_put_85 : decode cX13_put 85 = .ok (.ifCond .ge 12, 3) := by decide +kernel
theorem dX13_put_88 : decode cX13_put 88 = .ok (.aload_n 0, 1) := by decide +kernel
theorem dX13_put_89 : decode cX13_put 89 = .ok (.iload 4, 2) := by decide +kernel
theorem dX13_put_91 : decode cX13_put 91 = .ok (.invokevirtual 367, 3) := by decide +kernel
theorem dX13_put_94 : decode cX13_put 94 = .ok (.goto 87, 3) := by decide +kernel
theorem dX13_put_97 : decode cX13_put 97 = .ok (.aload_n 0, 1) := by decide +kernel
theorem dX13_put_98 : decode cX13_put 98 = .ok (.getfield 31, 3) := by decide +kernel
theorem dX13_put_101 : decode cX13_put 101 = .ok (.iload 4, 2) := by decide +kernel
theorem dX13_put_103 : decode cX13_put 103 = .ok (.aload_n 0, 1) := by decide +kernel
theorem dX13_put_104 : decode cX13_put 104 = .ok (.getfield 31, 3) := by decide +kernel
theorem dX13_put_107 : decode cX13_put 107 = .ok (.iload 5, 2) := by decide +kernel
theorem dX13_put_109 : decode cX13_put 109 = .ok (.iaload, 1) := by decide +kernel
theorem dX13_put_110 : decode cX13_put 110 = .ok (.iastore, 1) := by decide +kernel
theorem dX13_put_111 : decode cX13_put 111 = .ok (.aload_n 0, 1) := by decide +kernel
theorem dX13_put_112 : decode cX13_put 112 = .ok (.getfield 34, 3) := by decide +kernel
theorem dX13_put_115 : decode cX13_put 115 = .ok (.iload 4, 2) := by decide +kernel
theorem dX13_put_117 : decode cX13_put 117 = .ok (.aload_n 0, 1) := by decide +kernel
theorem dX13_put_118 : decode cX13_put 118 = .ok (.getfield 34, 3) := by decide +kernel
theorem dX13_put_121 : decode cX13_put 121 = .ok (.iload 5, 2) := by decide +kernel
theorem dX13_put_123 : decode cX13_put 123 = .ok (.iaload, 1) := by decide +kernel
theorem dX13_put_124 : decode cX13_put 124 = .ok (.iastore, 1) := by decide +kernel
theorem dX13_put_125 : decode cX13_put 125 = .ok (.aload_n 0, 1) := by decide +kernel
theorem dX13_put_126 : decode cX13_put 126 = .ok (.getfield 37, 3) := by decide +kernel
theorem dX13_put_129 : decode cX13_put 129 = .ok (.iload 4, 2) := by decide +kernel
theorem dX13_put_131 : decode cX13_put 131 = .ok (.aload_n 0, 1) := by decide +kernel
theorem dX13_put_132 : decode cX13_put 132 = .ok (.getfield 37, 3) := by decide +kernel
theorem dX13_put_135 : decode cX13_put 135 = .ok (.iload 5, 2) := by decide +kernel
theorem dX13_put_137 : decode cX13_put 137 = .ok (.iaload, 1) := by decide +kernel
theorem dX13_put_138 : decode cX13_put 138 = .ok (.iastore, 1) := by decide +kernel
theorem dX13_put_139 : decode cX13_put 139 = .ok (.aload_n 0, 1) := by decide +kernel
theorem dX13_put_140 : decode cX13_put 140 = .ok (.getfield 40, 3) := by decide +kernel
theorem dX13_put_143 : decode cX13_put 143 = .ok (.iload 4, 2) := by decide +kernel
theorem dX13_put_145 : decode cX13_put 145 = .ok (.aload_n 0, 1) := by decide +kernel
theorem dX13_put_146 : decode cX13_put 146 = .ok (.getfield 40, 3) := by decide +kernel
theorem dX13_put_149 : decode cX13_put 149 = .ok (.iload 5, 2) := by decide +kernel
theorem dX13_put_151 : decode cX13_put 151 = .ok (.iaload, 1) := by decide +kernel
theorem dX13_put_152 : decode cX13_put 152 = .ok (.iastore, 1) := by decide +kernel
theorem dX13_put_153 : decode cX13_put 153 = .ok (.aload_n 0, 1) := by decide +kernel
theorem dX13_put_154 : decode cX13_put 154 = .ok (.getfield 43, 3) := by decide +kernel
theorem dX13_put_157 : decode cX13_put 157 = .ok (.iload 4, 2) := by decide +kernel
theorem dX13_put_159 : decode cX13_put 159 = .ok (.aload_n 0, 1) := by decide +kernel
theorem dX13_put_160 : decode cX13_put 160 = .ok (.getfield 43, 3) := by decide +kernel
theorem dX13_put_163 : decode cX13_put 163 = .ok (.iload 5, 2) := by decide +kernel
theorem dX13_put_165 : decode cX13_put 165 = .ok (.iaload, 1) := by decide +kernel
theorem dX13_put_166 : decode cX13_put 166 = .ok (.iastore, 1) := by decide +kernel
theorem dX13_put_167 : decode cX13_put 167 = .ok (.aload_n 0, 1) := by decide +kernel
theorem dX13_put_168 : decode cX13_put 168 = .ok (.getfield 46, 3) := by decide +kernel
theorem dX13_put_171 : decode cX13_put 171 = .ok (.iload 4, 2) := by decide +kernel
theorem dX13_put_173 : decode cX13_put 173 = .ok (.aload_n 0, 1) := by decide +kernel
theorem dX13_put_174 : decode cX13_put 174 = .ok (.getfield 46, 3) := by decide +kernel
theorem dX13_put_177 : decode cX13_put 177 = .ok (.iload 5, 2) := by decide +kernel
theorem dX13_put_179 : decode cX13_put 179 = .ok (.iaload, 1) := by decide +kernel
theorem dX13_put_180 : decode cX13_put 180 = .ok (.iastore, 1) := by decide +kernel
theorem dX13_put_181 : decode cX13_put 181 = .ok (.iinc 4 1, 3) := by decide +kernel
theorem dX13_put_184 : decode cX13_put 184 = .ok (.goto (-130), 3) := by decide +kernel
theorem dX13_put_187 : decode cX13_put 187 = .ok (.aload_n 0, 1) := by decide +kernel
theorem dX13_put_188 : decode cX13_put 188 = .ok (.invokevirtual 361, 3) := by decide +kernel
theorem dX13_put_191 : decode cX13_put 191 = .ok (.aload_n 0, 1) := by decide +kernel
theorem dX13_put_192 : decode cX13_put 192 = .ok (.getfield 329, 3) := by decide +kernel
theorem dX13_put_195 : decode cX13_put 195 = .ok (.ireturn, 1) := by decide +kernel
theorem dX13_about_0 : decode cX13_about 0 = .ok (.iload_n 1, 1) := by decide +kernel
theorem dX13_about_1 : decode cX13_about 1 = .ok (.invokestatic 145, 3) := by decide +kernel
theorem dX13_about_4 : decode cX13_about 4 = .ok (.ifCond .eq 13, 3) := by decide +kernel
theorem dX13_about_7 : decode cX13_about 7 = .ok (.iload_n 2, 1) := by decide +kernel
theorem dX13_about_8 : decode cX13_about 8 = .ok (.ifCond .lt 9, 3) := by decide +kernel
theorem dX13_about_11 : decode cX13_about 11 = .ok (.iload_n 2, 1) := by decide +kernel
theorem dX13_about_12 : decode cX13_about 12 = .ok (.bipush 6, 2) := by decide +kernel
theorem dX13_about_14 : decode cX13_about 14 = .ok (.if_icmp .le 5, 3) := by decide +kernel
theorem dX13_about_17 : decode cX13_about 17 = .ok (.iconst (-1), 1) := by decide +kernel
theorem dX13_about_18 : decode cX13_about 18 = .ok (.ireturn, 1) := by decide +kernel
theorem dX13_about_19 : decode cX13_about 19 = .ok (.iload_n 2, 1) := by decide +kernel
theorem dX13_about_20 : decode cX13_about 20 = .ok (.tableswitch 82 0 5 #[40, 47, 54, 61, 68, 75], 40) := by decide +kernel
theorem dX13_about_60 : decode cX13_about 60 = .ok (.aload_n 0, 1) := by decide +kernel
theorem dX13_about_61 : decode cX13_about 61 = .ok (.getfield 17, 3) := by decide +kernel
theorem dX13_about_64 : decode cX13_about 64 = .ok (.iload_n 1, 1) := by decide +kernel
theorem dX13_about_65 : decode cX13_about 65 = .ok (.iaload, 1) := by decide +kernel
theorem dX13_about_66 : decode cX13_about 66 = .ok (.ireturn, 1) := by decide +kernel
theorem dX13_about_67 : decode cX13_about 67 = .ok (.aload_n 0, 1) := by decide +kernel
theorem dX13_about_68 : decode cX13_about 68 = .ok (.getfield 28, 3) := by decide +kernel
theorem dX13_about_71 : decode cX13_about 71 = .ok (.iload_n 1, 1) := by decide +kernel
theorem dX13_about_72 : decode cX13_about 72 = .ok (.iaload, 1) := by decide +kernel
theorem dX13_about_73 : decode cX13_about 73 = .ok (.ireturn, 1) := by decide +kernel
theorem dX13_about_74 : decode cX13_about 74 = .ok (.aload_n 0, 1) := by decide +kernel
theorem dX13_about_75 : decode cX13_about 75 = .ok (.getfield 31, 3) := by decide +kernel
theorem dX13_about_78 : decode cX13_about 78 = .ok (.iload_n 1, 1) := by decide +kernel
theorem dX13_about_79 : decode cX13_about 79 = .ok (.iaload, 1) := by decide +kernel
theorem dX13_about_80 : decode cX13_about 80 = .ok (.ireturn, 1) := by decide +kernel
theorem dX13_about_81 : decode cX13_about 81 = .ok (.aload_n 0, 1) := by decide +kernel
theorem dX13_about_82 : decode cX13_about 82 = .ok (.getfield 37, 3) := by decide +kernel
theorem dX13_about_85 : decode cX13_about 85 = .ok (.iload_n 1, 1) := by decide +kernel
theorem dX13_about_86 : decode cX13_about 86 = .ok (.iaload, 1) := by decide +kernel
theorem dX13_about_87 : decode cX13_about 87 = .ok (.ireturn, 1) := by decide +kernel
theorem dX13_about_88 : decode cX13_about 88 = .ok (.aload_n 0, 1) := by decide +kernel
theorem dX13_about_89 : decode cX13_about 89 = .ok (.getfield 40, 3) := by decide +kernel
theorem dX13_about_92 : decode cX13_about 92 = .ok (.iload_n 1, 1) := by decide +kernel
theorem dX13_about_93 : decode cX13_about 93 = .ok (.iaload, 1) := by decide +kernel
theorem dX13_about_94 : decode cX13_about 94 = .ok (.ireturn, 1) := by decide +kernel
theorem dX13_about_95 : decode cX13_about 95 = .ok (.aload_n 0, 1) := by decide +kernel
theorem dX13_about_96 : decode cX13_about 96 = .ok (.getfield 43, 3) := by decide +kernel
theorem dX13_about_99 : decode cX13_about 99 = .ok (.iload_n 1, 1) := by decide +kernel
theorem dX13_about_100 : decode cX13_about 100 = .ok (.iaload, 1) := by decide +kernel
theorem dX13_about_101 : decode cX13_about 101 = .ok (.ireturn, 1) := by decide +kernel
theorem dX13_about_102 : decode cX13_about 102 = .ok (.aload_n 0, 1) := by decide +kernel
theorem dX13_about_103 : decode cX13_about 103 = .ok (.getfield 46, 3) := by decide +kernel
theorem dX13_about_106 : decode cX13_about 106 = .ok (.iload_n 1, 1) := by decide +kernel
theorem dX13_about_107 : decode cX13_about 107 = .ok (.iaload, 1) := by decide +kernel
theorem dX13_about_108 : decode cX13_about 108 = .ok (.ireturn, 1) := by decide +kernel
theorem dX13_number_0 : decode cX13_number 0 = .ok (.iload_n 1, 1) := by decide +kernel
theorem dX13_number_1 : decode cX13_number 1 = .ok (.invokestatic 145, 3) := by decide +kernel
theorem dX13_number_4 : decode cX13_number 4 = .ok (.ifCond .ne 5, 3) := by decide +kernel
theorem dX13_number_7 : decode cX13_number 7 = .ok (.iconst (-1), 1) := by decide +kernel
theorem dX13_number_8 : decode cX13_number 8 = .ok (.ireturn, 1) := by decide +kernel
theorem dX13_number_9 : decode cX13_number 9 = .ok (.iload_n 2, 1) := by decide +kernel
theorem dX13_number_10 : decode cX13_number 10 = .ok (.ifCond .lt 13, 3) := by decide +kernel
theorem dX13_number_13 : decode cX13_number 13 = .ok (.iload_n 2, 1) := by decide +kernel
theorem dX13_number_14 : decode cX13_number 14 = .ok (.aload_n 0, 1) := by decide +kernel
theorem dX13_number_15 : decode cX13_number 15 = .ok (.getfield 37, 3) := by decide +kernel
theorem dX13_number_18 : decode cX13_number 18 = .ok (.iload_n 1, 1) := by decide +kernel
theorem dX13_number_19 : decode cX13_number 19 = .ok (.iaload, 1) := by decide +kernel
theorem dX13_number_20 : decode cX13_number 20 = .ok (.if_icmp .lt 8, 3) := by decide +kernel
theorem dX13_number_23 : decode cX13_number 23 = .ok (.bipush (-2), 2) := by decide +kernel
theorem dX13_number_25 : decode cX13_number 25 = .ok (.goto 16, 3) := by decide +kernel
theorem dX13_number_28 : decode cX13_number 28 = .ok (.aload_n 0, 1) := by decide +kernel
theorem dX13_number_29 : decode cX13_number 29 = .ok (.getfield 49, 3) := by decide +kernel
theorem dX13_number_32 : decode cX13_number 32 = .ok (.aload_n 0, 1) := by decide +kernel
theorem dX13_number_33 : decode cX13_number 33 = .ok (.getfield 34, 3) := by decide +kernel
theorem dX13_number_36 : decode cX13_number 36 = .ok (.iload_n 1, 1) := by decide +kernel
theorem dX13_number_37 : decode cX13_number 37 = .ok (.iaload, 1) := by decide +kernel
theorem dX13_number_38 : decode cX13_number 38 = .ok (.iload_n 2, 1) := by decide +kernel
theorem dX13_number_39 : decode cX13_number 39 = .ok (.iadd, 1) := by decide +kernel
theorem dX13_number_40 : decode cX13_number 40 = .ok (.iaload, 1) := by decide +kernel
theorem dX13_number_41 : decode cX13_number 41 = .ok (.ireturn, 1) := by decide +kernel
theorem dX13_fragments_0 : decode cX13_fragments 0 = .ok (.aload_n 0, 1) := by decide +kernel
theorem dX13_fragments_1 : decode cX13_fragments 1 = .ok (.getfield 346, 3) := by decide +kernel
theorem dX13_fragments_4 : decode cX13_fragments 4 = .ok (.ireturn, 1) := by decide +kernel
theorem dX13_fragment_0 : decode cX13_fragment 0 = .ok (.iload_n 2, 1) := by decide +kernel
theorem dX13_fragment_1 : decode cX13_fragment 1 = .ok (.ifCond .lt 8, 3) := by decide +kernel
theorem dX13_fragment_4 : decode cX13_fragment 4 = .ok (.iload_n 2, 1) := by decide +kernel
theorem dX13_fragment_5 : decode cX13_fragment 5 = .ok (.iconst 1, 1) := by decide +kernel
theorem dX13_fragment_6 : decode cX13_fragment 6 = .ok (.if_icmp .le 5, 3) := by decide +kernel
theorem dX13_fragment_9 : decode cX13_fragment 9 = .ok (.iconst (-1), 1) := by decide +kernel
theorem dX13_fragment_10 : decode cX13_fragment 10 = .ok (.ireturn, 1) := by decide +kernel
theorem dX13_fragment_11 : decode cX13_fragment 11 = .ok (.iload_n 1, 1) := by decide +kernel
theorem dX13_fragment_12 : decode cX13_fragment 12 = .ok (.ifCond .lt 11, 3) := by decide +kernel
theorem dX13_fragment_15 : decode cX13_fragment 15 = .ok (.iload_n 1, 1) := by decide +kernel
theorem dX13_fragment_16 : decode cX13_fragment 16 = .ok (.aload_n 0, 1) := by decide +kernel
theorem dX13_fragment_17 : decode cX13_fragment 17 = .ok (.getfield 346, 3) := by decide +kernel
theorem dX13_fragment_20 : decode cX13_fragment 20 = .ok (.if_icmp .lt 8, 3) := by decide +kernel
theorem dX13_fragment_23 : decode cX13_fragment 23 = .ok (.bipush (-2), 2) := by decide +kernel
theorem dX13_fragment_25 : decode cX13_fragment 25 = .ok (.goto 22, 3) := by decide +kernel
theorem dX13_fragment_28 : decode cX13_fragment 28 = .ok (.iload_n 2, 1) := by decide +kernel
theorem dX13_fragment_29 : decode cX13_fragment 29 = .ok (.ifCond .ne 12, 3) := by decide +kernel
theorem dX13_fragment_32 : decode cX13_fragment 32 = .ok (.aload_n 0, 1) := by decide +kernel
theorem dX13_fragment_33 : decode cX13_fragment 33 = .ok (.getfield 52, 3) := by decide +kernel
theorem dX13_fragment_36 : decode cX13_fragment 36 = .ok (.iload_n 1, 1) := by decide +kernel
theorem dX13_fragment_37 : decode cX13_fragment 37 = .ok (.iaload, 1) := by decide +kernel
theorem dX13_fragment_38 : decode cX13_fragment 38 = .ok (.goto 9, 3) := by decide +kernel
theorem dX13_fragment_41 : decode cX13_fragment 41 = .ok (.aload_n 0, 1) := by decide +kernel
theorem dX13_fragment_42 : decode cX13_fragment 42 = .ok (.getfield 55, 3) := by decide +kernel
theorem dX13_fragment_45 : decode cX13_fragment 45 = .ok (.iload_n 1, 1) := by decide +kernel
theorem dX13_fragment_46 : decode cX13_fragment 46 = .ok (.iaload, 1) := by decide +kernel
theorem dX13_fragment_47 : decode cX13_fragment 47 = .ok (.ireturn, 1) := by decide +kernel
theorem dX13_size_0 : decode cX13_size 0 = .ok (.aload_n 0, 1) := by decide +kernel
theorem dX13_size_1 : decode cX13_size 1 = .ok (.getfield 329, 3) := by decide +kernel
theorem dX13_size_4 : decode cX13_size 4 = .ok (.ireturn, 1) := by decide +kernel
theorem dX13_eight_0 : decode cX13_eight 0 = .ok (.lconst 0, 1) := by decide +kernel
theorem dX13_eight_1 : decode cX13_eight 1 = .ok (.lstore_n 3, 1) := by decide +kernel
theorem dX13_eight_2 : decode cX13_eight 2 = .ok (.ldc2_w 370, 3) := by decide +kernel
theorem dX13_eight_5 : decode cX13_eight 5 = .ok (.iload_n 2, 1) := by decide +kernel
theorem dX13_eight_6 : decode cX13_eight 6 = .ok (.i2l, 1) := by decide +kernel
theorem dX13_eight_7 : decode cX13_eight 7 = .ok (.lmul, 1) := by decide +kernel
theorem dX13_eight_8 : decode cX13_eight 8 = .ok (.ldc2_w 372, 3) := by decide +kernel
theorem dX13_eight_11 : decode cX13_eight 11 = .ok (.ladd, 1) := by decide +kernel
theorem dX13_eight_12 : decode cX13_eight 12 = .ok (.lstore 5, 2) := by decide +kernel
theorem dX13_eight_14 : decode cX13_eight 14 = .ok (.lload 5, 2) := by decide +kernel
theorem dX13_eight_16 : decode cX13_eight 16 = .ok (.ldc2_w 370, 3) := by decide +kernel
theorem dX13_eight_19 : decode cX13_eight 19 = .ok (.iload_n 2, 1) := by decide +kernel
theorem dX13_eight_20 : decode cX13_eight 20 = .ok (.i2l, 1) := by decide +kernel
theorem dX13_eight_21 : decode cX13_eight 21 = .ok (.lmul, 1) := by decide +kernel
theorem dX13_eight_22 : decode cX13_eight 22 = .ok (.lcmp, 1) := by decide +kernel
theorem dX13_eight_23 : decode cX13_eight 23 = .ok (.ifCond .lt 44, 3) := by decide +kernel
theorem dX13_eight_26 : decode cX13_eight 26 = .ok (.iload_n 2, 1) := by decide +kernel
theorem dX13_eight_27 : decode cX13_eight 27 = .ok (.ifCond .lt 40, 3) := by decide +kernel
theorem dX13_eight_30 : decode cX13_eight 30 = .ok (.lload_n 3, 1) := by decide +kernel
theorem dX13_eight_31 : decode cX13_eight 31 = .ok (.bipush 8, 2) := by decide +kernel
theorem dX13_eight_33 : decode cX13_eight 33 = .ok (.lshl, 1) := by decide +kernel
theorem dX13_eight_34 : decode cX13_eight 34 = .ok (.lload 5, 2) := by decide +kernel
theorem dX13_eight_36 : decode cX13_eight 36 = .ok (.iload_n 1, 1) := by decide +kernel
theorem dX13_eight_37 : decode cX13_eight 37 = .ok (.i2l, 1) := by decide +kernel
theorem dX13_eight_38 : decode cX13_eight 38 = .ok (.lcmp, 1) := by decide +kernel
theorem dX13_eight_39 : decode cX13_eight 39 = .ok (.ifCond .ge 15, 3) := by decide +kernel
theorem dX13_eight_42 : decode cX13_eight 42 = .ok (.aload_n 0, 1) := by decide +kernel
theorem dX13_eight_43 : decode cX13_eight 43 = .ok (.lload 5, 2) := by decide +kernel
theorem dX13_eight_45 : decode cX13_eight 45 = .ok (.l2i, 1) := by decide +kernel
theorem dX13_eight_46 : decode cX13_eight 46 = .ok (.baload, 1) := by decide +kernel
theorem dX13_eight_47 : decode cX13_eight 47 = .ok (.sipush 255, 3) := by decide +kernel
theorem dX13_eight_50 : decode cX13_eight 50 = .ok (.iand, 1) := by decide +kernel
theorem dX13_eight_51 : decode cX13_eight 51 = .ok (.goto 4, 3) := by decide +kernel
theorem dX13_eight_54 : decode cX13_eight 54 = .ok (.iconst 0, 1) := by decide +kernel
theorem dX13_eight_55 : decode cX13_eight 55 = .ok (.i2l, 1) := by decide +kernel
theorem dX13_eight_56 : decode cX13_eight 56 = .ok (.lor, 1) := by decide +kernel
theorem dX13_eight_57 : decode cX13_eight 57 = .ok (.lstore_n 3, 1) := by decide +kernel
theorem dX13_eight_58 : decode cX13_eight 58 = .ok (.lload 5, 2) := by decide +kernel
theorem dX13_eight_60 : decode cX13_eight 60 = .ok (.lconst 1, 1) := by decide +kernel
theorem dX13_eight_61 : decode cX13_eight 61 = .ok (.lsub, 1) := by decide +kernel
theorem dX13_eight_62 : decode cX13_eight 62 = .ok (.lstore 5, 2) := by decide +kernel
theorem dX13_eight_64 : decode cX13_eight 64 = .ok (.goto (-50), 3) := by decide +kernel
theorem dX13_eight_67 : decode cX13_eight 67 = .ok (.lload_n 3, 1) := by decide +kernel
theorem dX13_eight_68 : decode cX13_eight 68 = .ok (.lreturn, 1) := by decide +kernel
theorem dX13_word_0 : decode cX13_word 0 = .ok (.aload_n 0, 1) := by decide +kernel
theorem dX13_word_1 : decode cX13_word 1 = .ok (.getfield 62, 3) := by decide +kernel
theorem dX13_word_4 : decode cX13_word 4 = .ok (.aload_n 0, 1) := by decide +kernel
theorem dX13_word_5 : decode cX13_word 5 = .ok (.getfield 329, 3) := by decide +kernel
theorem dX13_word_8 : decode cX13_word 8 = .ok (.iload_n 1, 1) := by decide +kernel
theorem dX13_word_9 : decode cX13_word 9 = .ok (.invokestatic 374, 3) := by decide +kernel
theorem dX13_word_12 : decode cX13_word 12 = .ok (.lreturn, 1) := by decide +kernel
theorem dX13_patch_0 : decode cX13_patch 0 = .ok (.iload_n 1, 1) := by decide +kernel
theorem dX13_patch_1 : decode cX13_patch 1 = .ok (.ifCond .lt 11, 3) := by decide +kernel
theorem dX13_patch_4 : decode cX13_patch 4 = .ok (.iload_n 1, 1) := by decide +kernel
theorem dX13_patch_5 : decode cX13_patch 5 = .ok (.aload_n 0, 1) := by decide +kernel
theorem dX13_patch_6 : decode cX13_patch 6 = .ok (.getfield 329, 3) := by decide +kernel
theorem dX13_patch_9 : decode cX13_patch 9 = .ok (.if_icmp .lt 6, 3) := by decide +kernel
theorem dX13_patch_12 : decode cX13_patch 12 = .ok (.bipush (-2), 2) := by decide +kernel
theorem dX13_patch_14 : decode cX13_patch 14 = .ok (.ireturn, 1) := by decide +kernel
theorem dX13_patch_15 : decode cX13_patch 15 = .ok (.aload_n 0, 1) := by decide +kernel
theorem dX13_patch_16 : decode cX13_patch 16 = .ok (.getfield 62, 3) := by decide +kernel
theorem dX13_patch_19 : decode cX13_patch 19 = .ok (.iload_n 1, 1) := by decide +kernel
theorem dX13_patch_20 : decode cX13_patch 20 = .ok (.baload, 1) := by decide +kernel
theorem dX13_patch_21 : decode cX13_patch 21 = .ok (.sipush 255, 3) := by decide +kernel
theorem dX13_patch_24 : decode cX13_patch 24 = .ok (.iand, 1) := by decide +kernel
theorem dX13_patch_25 : decode cX13_patch 25 = .ok (.istore_n 3, 1) := by decide +kernel
theorem dX13_patch_26 : decode cX13_patch 26 = .ok (.aload_n 0, 1) := by decide +kernel
theorem dX13_patch_27 : decode cX13_patch 27 = .ok (.getfield 62, 3) := by decide +kernel
theorem dX13_patch_30 : decode cX13_patch 30 = .ok (.iload_n 1, 1) := by decide +kernel
theorem dX13_patch_31 : decode cX13_patch 31 = .ok (.iload_n 2, 1) := by decide +kernel
theorem dX13_patch_32 : decode cX13_patch 32 = .ok (.i2b, 1) := by decide +kernel
theorem dX13_patch_33 : decode cX13_patch 33 = .ok (.bastore, 1) := by decide +kernel
theorem dX13_patch_34 : decode cX13_patch 34 = .ok (.iload_n 3, 1) := by decide +kernel
theorem dX13_patch_35 : decode cX13_patch 35 = .ok (.ireturn, 1) := by decide +kernel
theorem dX13_cut_0 : decode cX13_cut 0 = .ok (.iload_n 1, 1) := by decide +kernel
theorem dX13_cut_1 : decode cX13_cut 1 = .ok (.ifCond .lt 11, 3) := by decide +kernel
theorem dX13_cut_4 : decode cX13_cut 4 = .ok (.iload_n 1, 1) := by decide +kernel
theorem dX13_cut_5 : decode cX13_cut 5 = .ok (.aload_n 0, 1) := by decide +kernel
theorem dX13_cut_6 : decode cX13_cut 6 = .ok (.getfield 329, 3) := by decide +kernel
theorem dX13_cut_9 : decode cX13_cut 9 = .ok (.if_icmp .le 5, 3) := by decide +kernel
theorem dX13_cut_12 : decode cX13_cut 12 = .ok (.iconst (-1), 1) := by decide +kernel
theorem dX13_cut_13 : decode cX13_cut 13 = .ok (.ireturn, 1) := by decide +kernel
theorem dX13_cut_14 : decode cX13_cut 14 = .ok (.aload_n 0, 1) := by decide +kernel
theorem dX13_cut_15 : decode cX13_cut 15 = .ok (.getfield 329, 3) := by decide +kernel
theorem dX13_cut_18 : decode cX13_cut 18 = .ok (.iload_n 1, 1) := by decide +kernel
theorem dX13_cut_19 : decode cX13_cut 19 = .ok (.isub, 1) := by decide +kernel
theorem dX13_cut_20 : decode cX13_cut 20 = .ok (.istore_n 2, 1) := by decide +kernel
theorem dX13_cut_21 : decode cX13_cut 21 = .ok (.aload_n 0, 1) := by decide +kernel
theorem dX13_cut_22 : decode cX13_cut 22 = .ok (.iload_n 1, 1) := by decide +kernel
theorem dX13_cut_23 : decode cX13_cut 23 = .ok (.putfield 329, 3) := by decide +kernel
theorem dX13_cut_26 : decode cX13_cut 26 = .ok (.iload_n 2, 1) := by decide +kernel
theorem dX13_cut_27 : decode cX13_cut 27 = .ok (.ireturn, 1) := by decide +kernel
theorem dX13_take_0 : decode cX13_take 0 = .ok (.iload_n 2, 1) := by decide +kernel
theorem dX13_take_1 : decode cX13_take 1 = .ok (.ldc_w 377, 3) := by decide +kernel
theorem dX13_take_4 : decode cX13_take 4 = .ok (.iand, 1) := by decide +kernel
theorem dX13_take_5 : decode cX13_take 5 = .ok (.istore_n 3, 1) := by decide +kernel
theorem dX13_take_6 : decode cX13_take 6 = .ok (.aload_n 0, 1) := by decide +kernel
theorem dX13_take_7 : decode cX13_take 7 = .ok (.dup, 1) := by decide +kernel
theorem dX13_take_8 : decode cX13_take 8 = .ok (.getfield 378, 3) := by decide +kernel
theorem dX13_take_11 : decode cX13_take 11 = .ok (.iconst 1, 1) := by decide +kernel
theorem dX13_take_12 : decode cX13_take 12 = .ok (.iadd, 1) := by decide +kernel
theorem dX13_take_13 : decode cX13_take 13 = .ok (.putfield 378, 3) := by decide +kernel
theorem dX13_take_16 : decode cX13_take 16 = .ok (.iload_n 1, 1) := by decide +kernel
theorem dX13_take_17 : decode cX13_take 17 = .ok (.iload_n 3, 1) := by decide +kernel
theorem dX13_take_18 : decode cX13_take 18 = .ok (.iadd, 1) := by decide +kernel
theorem dX13_take_19 : decode cX13_take 19 = .ok (.aload_n 0, 1) := by decide +kernel
theorem dX13_take_20 : decode cX13_take 20 = .ok (.getfield 329, 3) := by decide +kernel
theorem dX13_take_23 : decode cX13_take 23 = .ok (.if_icmp .le 5, 3) := by decide +kernel
theorem dX13_take_26 : decode cX13_take 26 = .ok (.iconst (-1), 1) := by decide +kernel
theorem dX13_take_27 : decode cX13_take 27 = .ok (.ireturn, 1) := by decide +kernel
theorem dX13_take_28 : decode cX13_take 28 = .ok (.iload_n 2, 1) := by decide +kernel
theorem dX13_take_29 : decode cX13_take 29 = .ok (.ldc_w 342, 3) := by decide +kernel
theorem dX13_take_32 : decode cX13_take 32 = .ok (.if_icmp .ge 22, 3) := by decide +kernel
theorem dX13_take_35 : decode cX13_take 35 = .ok (.aload_n 0, 1) := by decide +kernel
theorem dX13_take_36 : decode cX13_take 36 = .ok (.aload_n 0, 1) := by decide +kernel
theorem dX13_take_37 : decode cX13_take 37 = .ok (.getfield 62, 3) := by decide +kernel
theorem dX13_take_40 : decode cX13_take 40 = .ok (.iload_n 1, 1) := by decide +kernel
theorem dX13_take_41 : decode cX13_take 41 = .ok (.iload_n 3, 1) := by decide +kernel
theorem dX13_take_42 : decode cX13_take 42 = .ok (.aload_n 0, 1) := by decide +kernel
theorem dX13_take_43 : decode cX13_take 43 = .ok (.getfield 71, 3) := by decide +kernel
theorem dX13_take_46 : decode cX13_take 46 = .ok (.aload_n 0, 1) := by decide +kernel
theorem dX13_take_47 : decode cX13_take 47 = .ok (.getfield 24, 3) := by decide +kernel
theorem dX13_take_50 : decode cX13_take 50 = .ok (.invokevirtual 381, 3) := by decide +kernel
theorem dX13_take_53 : decode cX13_take 53 = .ok (.ireturn, 1) := by decide +kernel
theorem dX13_take_54 : decode cX13_take 54 = .ok (.iconst 0, 1) := by decide +kernel
theorem dX13_take_55 : decode cX13_take 55 = .ok (.istore 4, 2) := by decide +kernel
theorem dX13_take_57 : decode cX13_take 57 = .ok (.iload 4, 2) := by decide +kernel
theorem dX13_take_59 : decode cX13_take 59 = .ok (.iload_n 3, 1) := by decide +kernel
theorem dX13_take_60 : decode cX13_take 60 = .ok (.if_icmp .ge 25, 3) := by decide +kernel
theorem dX13_take_63 : decode cX13_take 63 = .ok (.aload_n 0, 1) := by decide +kernel
theorem dX13_take_64 : decode cX13_take 64 = .ok (.getfield 71, 3) := by decide +kernel
theorem dX13_take_67 : decode cX13_take 67 = .ok (.iload 4, 2) := by decide +kernel
theorem dX13_take_69 : decode cX13_take 69 = .ok (.aload_n 0, 1) := by decide +kernel
theorem dX13_take_70 : decode cX13_take 70 = .ok (.getfield 62, 3) := by decide +kernel
theorem dX13_take_73 : decode cX13_take 73 = .ok (.iload_n 1, 1) := by decide +kernel
theorem dX13_take_74 : decode cX13_take 74 = .ok (.iload 4, 2) := by decide +kernel
theorem dX13_take_76 : decode cX13_take 76 = .ok (.iadd, 1) := by decide +kernel
theorem dX13_take_77 : decode cX13_take 77 = .ok (.baload, 1) := by decide +kernel
theorem dX13_take_78 : decode cX13_take 78 = .ok (.bastore, 1) := by decide +kernel
theorem dX13_take_79 : decode cX13_take 79 = .ok (.iinc 4 1, 3) := by decide +kernel
theorem dX13_take_82 : decode cX13_take 82 = .ok (.goto (-25), 3) := by decide +kernel
theorem dX13_take_85 : decode cX13_take 85 = .ok (.iload_n 3, 1) := by decide +kernel
theorem dX13_take_86 : decode cX13_take 86 = .ok (.ireturn, 1) := by decide +kernel
theorem dX13_lay_0 : decode cX13_lay 0 = .ok (.iconst 0, 1) := by decide +kernel
theorem dX13_lay_1 : decode cX13_lay 1 = .ok (.istore 7, 2) := by decide +kernel
theorem dX13_lay_3 : decode cX13_lay 3 = .ok (.iload 7, 2) := by decide +kernel
theorem dX13_lay_5 : decode cX13_lay 5 = .ok (.iload_n 3, 1) := by decide +kernel
theorem dX13_lay_6 : decode cX13_lay 6 = .ok (.if_icmp .ge 57, 3) := by decide +kernel
theorem dX13_lay_9 : decode cX13_lay 9 = .ok (.iload_n 1, 1) := by decide +kernel
theorem dX13_lay_10 : decode cX13_lay 10 = .ok (.iload 7, 2) := by decide +kernel
theorem dX13_lay_12 : decode cX13_lay 12 = .ok (.iadd, 1) := by decide +kernel
theorem dX13_lay_13 : decode cX13_lay 13 = .ok (.iload 5, 2) := by decide +kernel
theorem dX13_lay_15 : decode cX13_lay 15 = .ok (.if_icmp .lt 42, 3) := by decide +kernel
theorem dX13_lay_18 : decode cX13_lay 18 = .ok (.iload_n 1, 1) := by decide +kernel
theorem dX13_lay_19 : decode cX13_lay 19 = .ok (.iload 7, 2) := by decide +kernel
theorem dX13_lay_21 : decode cX13_lay 21 = .ok (.iadd, 1) := by decide +kernel
theorem dX13_lay_22 : decode cX13_lay 22 = .ok (.iload 6, 2) := by decide +kernel
theorem dX13_lay_24 : decode cX13_lay 24 = .ok (.if_icmp .ge 33, 3) := by decide +kernel
theorem dX13_lay_27 : decode cX13_lay 27 = .ok (.aload_n 0, 1) := by decide +kernel
theorem dX13_lay_28 : decode cX13_lay 28 = .ok (.getfield 68, 3) := by decide +kernel
theorem dX13_lay_31 : decode cX13_lay 31 = .ok (.iload_n 1, 1) := by decide +kernel
theorem dX13_lay_32 : decode cX13_lay 32 = .ok (.iload 7, 2) := by decide +kernel
theorem dX13_lay_34 : decode cX13_lay 34 = .ok (.iadd, 1) := by decide +kernel
theorem dX13_lay_35 : decode cX13_lay 35 = .ok (.iload 5, 2) := by decide +kernel
theorem dX13_lay_37 : decode cX13_lay 37 = .ok (.isub, 1) := by decide +kernel
theorem dX13_lay_38 : decode cX13_lay 38 = .ok (.iload 4, 2) := by decide +kernel
theorem dX13_lay_40 : decode cX13_lay 40 = .ok (.ifCond .eq 7, 3) := by decide +kernel
theorem dX13_lay_43 : decode cX13_lay 43 = .ok (.iconst 0, 1) := by decide +kernel
theorem dX13_lay_44 : decode cX13_lay 44 = .ok (.goto 12, 3) := by decide +kernel
theorem dX13_lay_47 : decode cX13_lay 47 = .ok (.aload_n 0, 1) := by decide +kernel
theorem dX13_lay_48 : decode cX13_lay 48 = .ok (.getfield 71, 3) := by decide +kernel
theorem dX13_lay_51 : decode cX13_lay 51 = .ok (.iload_n 2, 1) := by decide +kernel
theorem dX13_lay_52 : decode cX13_lay 52 = .ok (.iload 7, 2) := by decide +kernel
theorem dX13_lay_54 : decode cX13_lay 54 = .ok (.iadd, 1) := by decide +kernel
theorem dX13_lay_55 : decode cX13_lay 55 = .ok (.baload, 1) := by decide +kernel
theorem dX13_lay_56 : decode cX13_lay 56 = .ok (.bastore, 1) := by decide +kernel
theorem dX13_lay_57 : decode cX13_lay 57 = .ok (.iinc 7 1, 3) := by decide +kernel
theorem dX13_lay_60 : decode cX13_lay 60 = .ok (.goto (-57), 3) := by decide +kernel
theorem dX13_lay_63 : decode cX13_lay 63 = .ok (.return_, 1) := by decide +kernel
theorem dX13_layAll_0 : decode cX13_layAll 0 = .ok (.aload_n 0, 1) := by decide +kernel
theorem dX13_layAll_1 : decode cX13_layAll 1 = .ok (.getfield 31, 3) := by decide +kernel
theorem dX13_layAll_4 : decode cX13_layAll 4 = .ok (.iload_n 1, 1) := by decide +kernel
theorem dX13_layAll_5 : decode cX13_layAll 5 = .ok (.iaload, 1) := by decide +kernel
theorem dX13_layAll_6 : decode cX13_layAll 6 = .ok (.istore 4, 2) := by decide +kernel
theorem dX13_layAll_8 : decode cX13_layAll 8 = .ok (.iconst 0, 1) := by decide +kernel
theorem dX13_layAll_9 : decode cX13_layAll 9 = .ok (.istore 5, 2) := by decide +kernel
theorem dX13_layAll_11 : decode cX13_layAll 11 = .ok (.iload 5, 2) := by decide +kernel
theorem dX13_layAll_13 : decode cX13_layAll 13 = .ok (.aload_n 0, 1) := by decide +kernel
theorem dX13_layAll_14 : decode cX13_layAll 14 = .ok (.getfield 37, 3) := by decide +kernel
theorem dX13_layAll_17 : decode cX13_layAll 17 = .ok (.iload_n 1, 1) := by decide +kernel
theorem dX13_layAll_18 : decode cX13_layAll 18 = .ok (.iaload, 1) := by decide +kernel
theorem dX13_layAll_19 : decode cX13_layAll 19 = .ok (.if_icmp .ge 135, 3) := by decide +kernel
theorem dX13_layAll_22 : decode cX13_layAll 22 = .ok (.iload 5, 2) := by decide +kernel
theorem dX13_layAll_24 : decode cX13_layAll 24 = .ok (.aload_n 0, 1) := by decide +kernel
theorem dX13_layAll_25 : decode cX13_layAll 25 = .ok (.getfield 24, 3) := by decide +kernel
theorem dX13_layAll_28 : decode cX13_layAll 28 = .ok (.imul, 1) := by decide +kernel
theorem dX13_layAll_29 : decode cX13_layAll 29 = .ok (.istore 6, 2) := by decide +kernel
theorem dX13_layAll_31 : decode cX13_layAll 31 = .ok (.aload_n 0, 1) := by decide +kernel
theorem dX13_layAll_32 : decode cX13_layAll 32 = .ok (.getfield 49, 3) := by decide +kernel
theorem dX13_layAll_35 : decode cX13_layAll 35 = .ok (.aload_n 0, 1) := by decide +kernel
theorem dX13_layAll_36 : decode cX13_layAll 36 = .ok (.getfield 34, 3) := by decide +kernel
theorem dX13_layAll_39 : decode cX13_layAll 39 = .ok (.iload_n 1, 1) := by decide +kernel
theorem dX13_layAll_40 : decode cX13_layAll 40 = .ok (.iaload, 1) := by decide +kernel
theorem dX13_layAll_41 : decode cX13_layAll 41 = .ok (.iload 5, 2) := by decide +kernel
theorem dX13_layAll_43 : decode cX13_layAll 43 = .ok (.iadd, 1) := by decide +kernel
theorem dX13_layAll_44 : decode cX13_layAll 44 = .ok (.iaload, 1) := by decide +kernel
theorem dX13_layAll_45 : decode cX13_layAll 45 = .ok (.istore 7, 2) := by decide +kernel
theorem dX13_layAll_47 : decode cX13_layAll 47 = .ok (.aload_n 0, 1) := by decide +kernel
theorem dX13_layAll_48 : decode cX13_layAll 48 = .ok (.getfield 28, 3) := by decide +kernel
theorem dX13_layAll_51 : decode cX13_layAll 51 = .ok (.iload_n 1, 1) := by decide +kernel
theorem dX13_layAll_52 : decode cX13_layAll 52 = .ok (.iaload, 1) := by decide +kernel
theorem dX13_layAll_53 : decode cX13_layAll 53 = .ok (.iload 6, 2) := by decide +kernel
theorem dX13_layAll_55 : decode cX13_layAll 55 = .ok (.isub, 1) := by decide +kernel
theorem dX13_layAll_56 : decode cX13_layAll 56 = .ok (.aload_n 0, 1) := by decide +kernel
theorem dX13_layAll_57 : decode cX13_layAll 57 = .ok (.getfield 24, 3) := by decide +kernel
theorem dX13_layAll_60 : decode cX13_layAll 60 = .ok (.if_icmp .ge 15, 3) := by decide +kernel
theorem dX13_layAll_63 : decode cX13_layAll 63 = .ok (.aload_n 0, 1) := by decide +kernel
theorem dX13_layAll_64 : decode cX13_layAll 64 = .ok (.getfield 28, 3) := by decide +kernel
theorem dX13_layAll_67 : decode cX13_layAll 67 = .ok (.iload_n 1, 1) := by decide +kernel
theorem dX13_layAll_68 : decode cX13_layAll 68 = .ok (.iaload, 1) := by decide +kernel
theorem dX13_layAll_69 : decode cX13_layAll 69 = .ok (.iload 6, 2) := by decide +kernel
theorem dX13_layAll_71 : decode cX13_layAll 71 = .ok (.isub, 1) := by decide +kernel
theorem dX13_layAll_72 : decode cX13_layAll 72 = .ok (.goto 7, 3) := by decide +kernel
theorem dX13_layAll_75 : decode cX13_layAll 75 = .ok (.aload_n 0, 1) := by decide +kernel
theorem dX13_layAll_76 : decode cX13_layAll 76 = .ok (.getfield 24, 3) := by decide +kernel
theorem dX13_layAll_79 : decode cX13_layAll 79 = .ok (.istore 8, 2) := by decide +kernel
theorem dX13_layAll_81 : decode cX13_layAll 81 = .ok (.iload 6, 2) := by decide +kernel
theorem dX13_layAll_83 : decode cX13_layAll 83 = .ok (.iload_n 3, 1) := by decide +kernel
theorem dX13_layAll_84 : decode cX13_layAll 84 = .ok (.if_icmp .ge 53, 3) := by decide +kernel
theorem dX13_layAll_87 : decode cX13_layAll 87 = .ok (.iload 6, 2) := by decide +kernel
theorem dX13_layAll_89 : decode cX13_layAll 89 = .ok (.iload 8, 2) := by decide +kernel
theorem dX13_layAll_91 : decode cX13_layAll 91 = .ok (.iadd, 1) := by decide +kernel
theorem dX13_layAll_92 : decode cX13_layAll 92 = .ok (.iload_n 2, 1) := by decide +kernel
theorem dX13_layAll_93 : decode cX13_layAll 93 = .ok (.if_icmp .le 44, 3) := by decide +kernel
theorem dX13_layAll_96 : decode cX13_layAll 96 = .ok (.iload 7, 2) := by decide +kernel
theorem dX13_layAll_98 : decode cX13_layAll 98 = .ok (.ifCond .eq 18, 3) := by decide +kernel
theorem dX13_layAll_101 : decode cX13_layAll 101 = .ok (.aload_n 0, 1) := by decide +kernel
theorem dX13_layAll_102 : decode cX13_layAll 102 = .ok (.iload 4, 2) := by decide +kernel
theorem dX13_layAll_104 : decode cX13_layAll 104 = .ok (.iload 7, 2) := by decide +kernel
theorem dX13_layAll_106 : decode cX13_layAll 106 = .ok (.invokevirtual 385, 3) := by decide +kernel
theorem dX13_layAll_109 : decode cX13_layAll 109 = .ok (.iload 8, 2) := by decide +kernel
theorem dX13_layAll_111 : decode cX13_layAll 111 = .ok (.if_icmp .eq 5, 3) := by decide +kernel
theorem dX13_layAll_114 : decode cX13_layAll 114 = .ok (.iconst 0, 1) := by decide +kernel
theorem dX13_layAll_115 : decode cX13_layAll 115 = .ok (.ireturn, 1) := by decide +kernel
theorem dX13_layAll_116 : decode cX13_layAll 116 = .ok (.aload_n 0, 1) := by decide +kernel
theorem dX13_layAll_117 : decode cX13_layAll 117 = .ok (.iload 6, 2) := by decide +kernel
theorem dX13_layAll_119 : decode cX13_layAll 119 = .ok (.iconst 0, 1) := by decide +kernel
theorem dX13_layAll_120 : decode cX13_layAll 120 = .ok (.iload 8, 2) := by decide +kernel
theorem dX13_layAll_122 : decode cX13_layAll 122 = .ok (.iload 7, 2) := by decide +kernel
theorem dX13_layAll_124 : decode cX13_layAll 124 = .ok (.ifCond .ne 7, 3) := by decide +kernel
theorem dX13_layAll_127 : decode cX13_layAll 127 = .ok (.iconst 1, 1) := by decide +kernel
theorem dX13_layAll_128 : decode cX13_layAll 128 = .ok (.goto 4, 3) := by decide +kernel
theorem dX13_layAll_131 : decode cX13_layAll 131 = .ok (.iconst 0, 1) := by decide +kernel
theorem dX13_layAll_132 : decode cX13_layAll 132 = .ok (.iload_n 2, 1) := by decide +kernel
theorem dX13_layAll_133 : decode cX13_layAll 133 = .ok (.iload_n 3, 1) := by decide +kernel
theorem dX13_layAll_134 : decode cX13_layAll 134 = .ok (.invokevirtual 388, 3) := by decide +kernel
theorem dX13_layAll_137 : decode cX13_layAll 137 = .ok (.iload 4, 2) := by decide +kernel
theorem dX13_layAll_139 : decode cX13_layAll 139 = .ok (.iload 7, 2) := by decide +kernel
theorem dX13_layAll_141 : decode cX13_layAll 141 = .ok (.ldc_w 377, 3) := by decide +kernel
theorem dX13_layAll_144 : decode cX13_layAll 144 = .ok (.iand, 1) := by decide +kernel
theorem dX13_layAll_145 : decode cX13_layAll 145 = .ok (.iadd, 1) := by decide +kernel
theorem dX13_layAll_146 : decode cX13_layAll 146 = .ok (.istore 4, 2) := by decide +kernel
theorem dX13_layAll_148 : decode cX13_layAll 148 = .ok (.iinc 5 1, 3) := by decide +kernel
theorem dX13_layAll_151 : decode cX13_layAll 151 = .ok (.goto (-140), 3) := by decide +kernel
theorem dX13_layAll_154 : decode cX13_layAll 154 = .ok (.aload_n 0, 1) := by decide +kernel
theorem dX13_layAll_155 : decode cX13_layAll 155 = .ok (.getfield 28, 3) := by decide +kernel
theorem dX13_layAll_158 : decode cX13_layAll 158 = .ok (.iload_n 1, 1) := by decide +kernel
theorem dX13_layAll_159 : decode cX13_layAll 159 = .ok (.iaload, 1) := by decide +kernel
theorem dX13_layAll_160 : decode cX13_layAll 160 = .ok (.aload_n 0, 1) := by decide +kernel
theorem dX13_layAll_161 : decode cX13_layAll 161 = .ok (.getfield 24, 3) := by decide +kernel
theorem dX13_layAll_164 : decode cX13_layAll 164 = .ok (.irem, 1) := by decide +kernel
theorem dX13_layAll_165 : decode cX13_layAll 165 = .ok (.istore 5, 2) := by decide +kernel
theorem dX13_layAll_167 : decode cX13_layAll 167 = .ok (.aload_n 0, 1) := by decide +kernel
theorem dX13_layAll_168 : decode cX13_layAll 168 = .ok (.getfield 28, 3) := by decide +kernel
theorem dX13_layAll_171 : decode cX13_layAll 171 = .ok (.iload_n 1, 1) := by decide +kernel
theorem dX13_layAll_172 : decode cX13_layAll 172 = .ok (.iaload, 1) := by decide +kernel
theorem dX13_layAll_173 : decode cX13_layAll 173 = .ok (.iload 5, 2) := by decide +kernel
theorem dX13_layAll_175 : decode cX13_layAll 175 = .ok (.isub, 1) := by decide +kernel
theorem dX13_layAll_176 : decode cX13_layAll 176 = .ok (.istore 6, 2) := by decide +kernel
theorem dX13_layAll_178 : decode cX13_layAll 178 = .ok (.aload_n 0, 1) := by decide +kernel
theorem dX13_layAll_179 : decode cX13_layAll 179 = .ok (.getfield 40, 3) := by decide +kernel
theorem dX13_layAll_182 : decode cX13_layAll 182 = .ok (.iload_n 1, 1) := by decide +kernel
theorem dX13_layAll_183 : decode cX13_layAll 183 = .ok (.iaload, 1) := by decide +kernel
theorem dX13_layAll_184 : decode cX13_layAll 184 = .ok (.istore 7, 2) := by decide +kernel
theorem dX13_layAll_186 : decode cX13_layAll 186 = .ok (.iload 7, 2) := by decide +kernel
theorem dX13_layAll_188 : decode cX13_layAll 188 = .ok (.ifCond .lt 68, 3) := by decide +kernel
theorem dX13_layAll_191 : decode cX13_layAll 191 = .ok (.iload 6, 2) := by decide +kernel
theorem dX13_layAll_193 : decode cX13_layAll 193 = .ok (.iload_n 3, 1) := by decide +kernel
theorem dX13_layAll_194 : decode cX13_layAll 194 = .ok (.if_icmp .ge 62, 3) := by decide +kernel
theorem dX13_layAll_197 : decode cX13_layAll 197 = .ok (.aload_n 0, 1) := by decide +kernel
theorem dX13_layAll_198 : decode cX13_layAll 198 = .ok (.getfield 28, 3) := by decide +kernel
theorem dX13_layAll_201 : decode cX13_layAll 201 = .ok (.iload_n 1, 1) := by decide +kernel
theorem dX13_layAll_202 : decode cX13_layAll 202 = .ok (.iaload, 1) := by decide +kernel
theorem dX13_layAll_203 : decode cX13_layAll 203 = .ok (.iload_n 2, 1) := by decide +kernel
theorem dX13_layAll_204 : decode cX13_layAll 204 = .ok (.if_icmp .le 52, 3) := by decide +kernel
theorem dX13_layAll_207 : decode cX13_layAll 207 = .ok (.aload_n 0, 1) := by decide +kernel
theorem dX13_layAll_208 : decode cX13_layAll 208 = .ok (.aload_n 0, 1) := by decide +kernel
theorem dX13_layAll_209 : decode cX13_layAll 209 = .ok (.getfield 52, 3) := by decide +kernel
theorem dX13_layAll_212 : decode cX13_layAll 212 = .ok (.iload 7, 2) := by decide +kernel
theorem dX13_layAll_214 : decode cX13_layAll 214 = .ok (.iaload, 1) := by decide +kernel
theorem dX13_layAll_215 : decode cX13_layAll 215 = .ok (.aload_n 0, 1) := by decide +kernel
theorem dX13_layAll_216 : decode cX13_layAll 216 = .ok (.getfield 55, 3) := by decide +kernel
theorem dX13_layAll_219 : decode cX13_layAll 219 = .ok (.iload 7, 2) := by decide +kernel
theorem dX13_layAll_221 : decode cX13_layAll 221 = .ok (.iaload, 1) := by decide +kernel
theorem dX13_layAll_222 : decode cX13_layAll 222 = .ok (.invokevirtual 385, 3) := by decide +kernel
theorem dX13_layAll_225 : decode cX13_layAll 225 = .ok (.aload_n 0, 1) := by decide +kernel
theorem dX13_layAll_226 : decode cX13_layAll 226 = .ok (.getfield 43, 3) := by decide +kernel
theorem dX13_layAll_229 : decode cX13_layAll 229 = .ok (.iload_n 1, 1) := by decide +kernel
theorem dX13_layAll_230 : decode cX13_layAll 230 = .ok (.iaload, 1) := by decide +kernel
theorem dX13_layAll_231 : decode cX13_layAll 231 = .ok (.iload 5, 2) := by decide +kernel
theorem dX13_layAll_233 : decode cX13_layAll 233 = .ok (.iadd, 1) := by decide +kernel
theorem dX13_layAll_234 : decode cX13_layAll 234 = .ok (.if_icmp .ge 5, 3) := by decide +kernel
theorem dX13_layAll_237 : decode cX13_layAll 237 = .ok (.iconst 0, 1) := by decide +kernel
theorem dX13_layAll_238 : decode cX13_layAll 238 = .ok (.ireturn, 1) := by decide +kernel
theorem dX13_layAll_239 : decode cX13_layAll 239 = .ok (.aload_n 0, 1) := by decide +kernel
theorem dX13_layAll_240 : decode cX13_layAll 240 = .ok (.iload 6, 2) := by decide +kernel
theorem dX13_layAll_242 : decode cX13_layAll 242 = .ok (.aload_n 0, 1) := by decide +kernel
theorem dX13_layAll_243 : decode cX13_layAll 243 = .ok (.getfield 43, 3) := by decide +kernel
theorem dX13_layAll_246 : decode cX13_layAll 246 = .ok (.iload_n 1, 1) := by decide +kernel
theorem dX13_layAll_247 : decode cX13_layAll 247 = .ok (.iaload, 1) := by decide +kernel
theorem dX13_layAll_248 : decode cX13_layAll 248 = .ok (.iload 5, 2) := by decide +kernel
theorem dX13_layAll_250 : decode cX13_layAll 250 = .ok (.iconst 0, 1) := by decide +kernel
theorem dX13_layAll_251 : decode cX13_layAll 251 = .ok (.iload_n 2, 1) := by decide +kernel
theorem dX13_layAll_252 : decode cX13_layAll 252 = .ok (.iload_n 3, 1) := by decide +kernel
theorem dX13_layAll_253 : decode cX13_layAll 253 = .ok (.invokevirtual 388, 3) := by decide +kernel
theorem dX13_layAll_256 : decode cX13_layAll 256 = .ok (.iconst 1, 1) := by decide +kernel
theorem dX13_layAll_257 : decode cX13_layAll 257 = .ok (.ireturn, 1) := by decide +kernel
theorem dX13_read_0 : decode cX13_read 0 = .ok (.aload_n 0, 1) := by decide +kernel
theorem dX13_read_1 : decode cX13_read 1 = .ok (.iconst 0, 1) := by decide +kernel
theorem dX13_read_2 : decode cX13_read 2 = .ok (.putfield 378, 3) := by decide +kernel
theorem dX13_read_5 : decode cX13_read 5 = .ok (.iload_n 1, 1) := by decide +kernel
theorem dX13_read_6 : decode cX13_read 6 = .ok (.invokestatic 145, 3) := by decide +kernel
theorem dX13_read_9 : decode cX13_read 9 = .ok (.ifCond .eq 18, 3) := by decide +kernel
theorem dX13_read_12 : decode cX13_read 12 = .ok (.iload_n 2, 1) := by decide +kernel
theorem dX13_read_13 : decode cX13_read 13 = .ok (.ifCond .lt 14, 3) := by decide +kernel
theorem dX13_read_16 : decode cX13_read 16 = .ok (.iload_n 3, 1) := by decide +kernel
theorem dX13_read_17 : decode cX13_read 17 = .ok (.ifCond .lt 10, 3) := by decide +kernel
theorem dX13_read_20 : decode cX13_read 20 = .ok (.iload_n 3, 1) := by decide +kernel
theorem dX13_read_21 : decode cX13_read 21 = .ok (.sipush 4096, 3) := by decide +kernel
theorem dX13_read_24 : decode cX13_read 24 = .ok (.if_icmp .le 5, 3) := by decide +kernel
theorem dX13_read_27 : decode cX13_read 27 = .ok (.iconst (-1), 1) := by decide +kernel
theorem dX13_read_28 : decode cX13_read 28 = .ok (.ireturn, 1) := by decide +kernel
theorem dX13_read_29 : decode cX13_read 29 = .ok (.aload_n 0, 1) := by decide +kernel
theorem dX13_read_30 : decode cX13_read 30 = .ok (.getfield 28, 3) := by decide +kernel
theorem dX13_read_33 : decode cX13_read 33 = .ok (.iload_n 1, 1) := by decide +kernel
theorem dX13_read_34 : decode cX13_read 34 = .ok (.iaload, 1) := by decide +kernel
theorem dX13_read_35 : decode cX13_read 35 = .ok (.iload_n 2, 1) := by decide +kernel
theorem dX13_read_36 : decode cX13_read 36 = .ok (.isub, 1) := by decide +kernel
theorem dX13_read_37 : decode cX13_read 37 = .ok (.istore 4, 2) := by decide +kernel
theorem dX13_read_39 : decode cX13_read 39 = .ok (.iload 4, 2) := by decide +kernel
theorem dX13_read_41 : decode cX13_read 41 = .ok (.ifCond .ge 7, 3) := by decide +kernel
theorem dX13_read_44 : decode cX13_read 44 = .ok (.iconst 0, 1) := by decide +kernel
theorem dX13_read_45 : decode cX13_read 45 = .ok (.goto 15, 3) := by decide +kernel
theorem dX13_read_48 : decode cX13_read 48 = .ok (.iload 4, 2) := by decide +kernel
theorem dX13_read_50 : decode cX13_read 50 = .ok (.iload_n 3, 1) := by decide +kernel
theorem dX13_read_51 : decode cX13_read 51 = .ok (.if_icmp .ge 8, 3) := by decide +kernel
theorem dX13_read_54 : decode cX13_read 54 = .ok (.iload 4, 2) := by decide +kernel
theorem dX13_read_56 : decode cX13_read 56 = .ok (.goto 4, 3) := by decide +kernel
theorem dX13_read_59 : decode cX13_read 59 = .ok (.iload_n 3, 1) := by decide +kernel
theorem dX13_read_60 : decode cX13_read 60 = .ok (.istore 5, 2) := by decide +kernel
theorem dX13_read_62 : decode cX13_read 62 = .ok (.iload 5, 2) := by decide +kernel
theorem dX13_read_64 : decode cX13_read 64 = .ok (.ifCond .le 24, 3) := by decide +kernel
theorem dX13_read_67 : decode cX13_read 67 = .ok (.aload_n 0, 1) := by decide +kernel
theorem dX13_read_68 : decode cX13_read 68 = .ok (.iload_n 1, 1) := by decide +kernel
theorem dX13_read_69 : decode cX13_read 69 = .ok (.iload_n 2, 1) := by decide +kernel
theorem dX13_read_70 : decode cX13_read 70 = .ok (.iload_n 2, 1) := by decide +kernel
theorem dX13_read_71 : decode cX13_read 71 = .ok (.iload 5, 2) := by decide +kernel
theorem dX13_read_73 : decode cX13_read 73 = .ok (.iadd, 1) := by decide +kernel
theorem dX13_read_74 : decode cX13_read 74 = .ok (.invokevirtual 392, 3) := by decide +kernel
theorem dX13_read_77 : decode cX13_read 77 = .ok (.ifCond .ne 11, 3) := by decide +kernel
theorem dX13_read_80 : decode cX13_read 80 = .ok (.aload_n 0, 1) := by decide +kernel
theorem dX13_read_81 : decode cX13_read 81 = .ok (.iconst 0, 1) := by decide +kernel
theorem dX13_read_82 : decode cX13_read 82 = .ok (.putfield 378, 3) := by decide +kernel
theorem dX13_read_85 : decode cX13_read 85 = .ok (.bipush (-4), 2) := by decide +kernel
theorem dX13_read_87 : decode cX13_read 87 = .ok (.ireturn, 1) := by decide +kernel
theorem dX13_read_88 : decode cX13_read 88 = .ok (.aload_n 0, 1) := by decide +kernel
theorem dX13_read_89 : decode cX13_read 89 = .ok (.iload 5, 2) := by decide +kernel
theorem dX13_read_91 : decode cX13_read 91 = .ok (.putfield 396, 3) := by decide +kernel
theorem dX13_read_94 : decode cX13_read 94 = .ok (.iconst 0, 1) := by decide +kernel
theorem dX13_read_95 : decode cX13_read 95 = .ok (.istore 6, 2) := by decide +kernel
theorem dX13_read_97 : decode cX13_read 97 = .ok (.iload 6, 2) := by decide +kernel
theorem dX13_read_99 : decode cX13_read 99 = .ok (.iload 5, 2) := by decide +kernel
theorem dX13_read_101 : decode cX13_read 101 = .ok (.if_icmp .ge 23, 3) := by decide +kernel
theorem dX13_read_104 : decode cX13_read 104 = .ok (.aload_n 0, 1) := by decide +kernel
theorem dX13_read_105 : decode cX13_read 105 = .ok (.getfield 65, 3) := by decide +kernel
theorem dX13_read_108 : decode cX13_read 108 = .ok (.iload 6, 2) := by decide +kernel
theorem dX13_read_110 : decode cX13_read 110 = .ok (.aload_n 0, 1) := by decide +kernel
theorem dX13_read_111 : decode cX13_read 111 = .ok (.getfield 68, 3) := by decide +kernel
theorem dX13_read_114 : decode cX13_read 114 = .ok (.iload 6, 2) := by decide +kernel
theorem dX13_read_116 : decode cX13_read 116 = .ok (.baload, 1) := by decide +kernel
theorem dX13_read_117 : decode cX13_read 117 = .ok (.bastore, 1) := by decide +kernel
theorem dX13_read_118 : decode cX13_read 118 = .ok (.iinc 6 1, 3) := by decide +kernel
theorem dX13_read_121 : decode cX13_read 121 = .ok (.goto (-24), 3) := by decide +kernel
theorem dX13_read_124 : decode cX13_read 124 = .ok (.iload 5, 2) := by decide +kernel
theorem dX13_read_126 : decode cX13_read 126 = .ok (.ireturn, 1) := by decide +kernel
theorem dX13_out_0 : decode cX13_out 0 = .ok (.aload_n 0, 1) := by decide +kernel
theorem dX13_out_1 : decode cX13_out 1 = .ok (.getfield 65, 3) := by decide +kernel
theorem dX13_out_4 : decode cX13_out 4 = .ok (.aload_n 0, 1) := by decide +kernel
theorem dX13_out_5 : decode cX13_out 5 = .ok (.getfield 396, 3) := by decide +kernel
theorem dX13_out_8 : decode cX13_out 8 = .ok (.iload_n 1, 1) := by decide +kernel
theorem dX13_out_9 : decode cX13_out 9 = .ok (.invokestatic 374, 3) := by decide +kernel
theorem dX13_out_12 : decode cX13_out 12 = .ok (.lreturn, 1) := by decide +kernel
theorem dX13_taken_0 : decode cX13_taken 0 = .ok (.aload_n 0, 1) := by decide +kernel
theorem dX13_taken_1 : decode cX13_taken 1 = .ok (.getfield 378, 3) := by decide +kernel
theorem dX13_taken_4 : decode cX13_taken 4 = .ok (.ireturn, 1) := by decide +kernel
