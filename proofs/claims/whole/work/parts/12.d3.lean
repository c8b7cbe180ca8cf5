/-! what stands at each place of a code (printed rows of NAMES) -/
theorem dX9_nextNumber_66 : decode cX9_nextNumber 66 = .ok (.putfield 78, 3) := by decide +kernel
theorem dX9_nextNumber_69 : decode cX9_nextNumber 69 = .ok (.aload_n 0, 1) := by decide +kernel
theorem dX9_nextNumber_70 : decode cX9_nextNumber 70 = .ok (.dup, 1) := by decide +kernel
theorem dX9_nextNumber_71 : decode cX9_nextNumber 71 = .ok (.getfield 43, 3) := by decide +kernel
theorem dX9_nextNumber_74 : decode cX9_nextNumber 74 = .ok (.iconst 1, 1) := by decide +kernel
theorem dX9_nextNumber_75 : decode cX9_nextNumber 75 = .ok (.iadd, 1) := by decide +kernel
theorem dX9_nextNumber_76 : decode cX9_nextNumber 76 = .ok (.putfield 43, 3) := by decide +kernel
theorem dX9_nextNumber_79 : decode cX9_nextNumber 79 = .ok (.goto (-69), 3) := by decide +kernel
theorem dX9_nextNumber_82 : decode cX9_nextNumber 82 = .ok (.return_, 1) := by decide +kernel
theorem dX9_nextSign_0 : decode cX9_nextSign 0 = .ok (.aload_n 0, 1) := by decide +kernel
theorem dX9_nextSign_1 : decode cX9_nextSign 1 = .ok (.dup, 1) := by decide +kernel
theorem dX9_nextSign_2 : decode cX9_nextSign 2 = .ok (.getfield 43, 3) := by decide +kernel
theorem dX9_nextSign_5 : decode cX9_nextSign 5 = .ok (.iconst 1, 1) := by decide +kernel
theorem dX9_nextSign_6 : decode cX9_nextSign 6 = .ok (.iadd, 1) := by decide +kernel
theorem dX9_nextSign_7 : decode cX9_nextSign 7 = .ok (.putfield 43, 3) := by decide +kernel
theorem dX9_nextSign_10 : decode cX9_nextSign 10 = .ok (.aload_n 0, 1) := by decide +kernel
theorem dX9_nextSign_11 : decode cX9_nextSign 11 = .ok (.getfield 43, 3) := by decide +kernel
theorem dX9_nextSign_14 : decode cX9_nextSign 14 = .ok (.aload_n 0, 1) := by decide +kernel
theorem dX9_nextSign_15 : decode cX9_nextSign 15 = .ok (.getfield 39, 3) := by decide +kernel
theorem dX9_nextSign_18 : decode cX9_nextSign 18 = .ok (.if_icmp .ge 17, 3) := by decide +kernel
theorem dX9_nextSign_21 : decode cX9_nextSign 21 = .ok (.aload_n 0, 1) := by decide +kernel
theorem dX9_nextSign_22 : decode cX9_nextSign 22 = .ok (.getfield 20, 3) := by decide +kernel
theorem dX9_nextSign_25 : decode cX9_nextSign 25 = .ok (.aload_n 0, 1) := by decide +kernel
theorem dX9_nextSign_26 : decode cX9_nextSign 26 = .ok (.getfield 43, 3) := by decide +kernel
theorem dX9_nextSign_29 : decode cX9_nextSign 29 = .ok (.invokevirtual 49, 3) := by decide +kernel
theorem dX9_nextSign_32 : decode cX9_nextSign 32 = .ok (.goto 4, 3) := by decide +kernel
theorem dX9_nextSign_35 : decode cX9_nextSign 35 = .ok (.iconst 0, 1) := by decide +kernel
theorem dX9_nextSign_36 : decode cX9_nextSign 36 = .ok (.istore_n 2, 1) := by decide +kernel
theorem dX9_nextSign_37 : decode cX9_nextSign 37 = .ok (.aload_n 0, 1) := by decide +kernel
theorem dX9_nextSign_38 : decode cX9_nextSign 38 = .ok (.bipush 8, 2) := by decide +kernel
theorem dX9_nextSign_40 : decode cX9_nextSign 40 = .ok (.putfield 60, 3) := by decide +kernel
theorem dX9_nextSign_43 : decode cX9_nextSign 43 = .ok (.iload_n 1, 1) := by decide +kernel
theorem dX9_nextSign_44 : decode cX9_nextSign 44 = .ok (.tableswitch 276 40 62 #[116, 125, 152, 134, 276, 143, 276, 161, 276, 276, 276, 276, 276, 276, 276, 276, 276, 276, 276, 108, 179, 170, 233], 108) := by decide +kernel
theorem dX9_nextSign_152 : decode cX9_nextSign 152 = .ok (.aload_n 0, 1) := by decide +kernel
theorem dX9_nextSign_153 : decode cX9_nextSign 153 = .ok (.iconst 5, 1) := by decide +kernel
theorem dX9_nextSign_154 : decode cX9_nextSign 154 = .ok (.putfield 60, 3) := by decide +kernel
theorem dX9_nextSign_157 : decode cX9_nextSign 157 = .ok (.goto 168, 3) := by decide +kernel
theorem dX9_nextSign_160 : decode cX9_nextSign 160 = .ok (.aload_n 0, 1) := by decide +kernel
theorem dX9_nextSign_161 : decode cX9_nextSign 161 = .ok (.bipush 6, 2) := by decide +kernel
theorem dX9_nextSign_163 : decode cX9_nextSign 163 = .ok (.putfield 60, 3) := by decide +kernel
theorem dX9_nextSign_166 : decode cX9_nextSign 166 = .ok (.goto 159, 3) := by decide +kernel
theorem dX9_nextSign_169 : decode cX9_nextSign 169 = .ok (.aload_n 0, 1) := by decide +kernel
theorem dX9_nextSign_170 : decode cX9_nextSign 170 = .ok (.bipush 7, 2) := by decide +kernel
theorem dX9_nextSign_172 : decode cX9_nextSign 172 = .ok (.putfield 60, 3) := by decide +kernel
theorem dX9_nextSign_175 : decode cX9_nextSign 175 = .ok (.goto 150, 3) := by decide +kernel
theorem dX9_nextSign_178 : decode cX9_nextSign 178 = .ok (.aload_n 0, 1) := by decide +kernel
theorem dX9_nextSign_179 : decode cX9_nextSign 179 = .ok (.bipush 12, 2) := by decide +kernel
theorem dX9_nextSign_181 : decode cX9_nextSign 181 = .ok (.putfield 78, 3) := by decide +kernel
theorem dX9_nextSign_184 : decode cX9_nextSign 184 = .ok (.goto 141, 3) := by decide +kernel
theorem dX9_nextSign_187 : decode cX9_nextSign 187 = .ok (.aload_n 0, 1) := by decide +kernel
theorem dX9_nextSign_188 : decode cX9_nextSign 188 = .ok (.bipush 13, 2) := by decide +kernel
theorem dX9_nextSign_190 : decode cX9_nextSign 190 = .ok (.putfield 78, 3) := by decide +kernel
theorem dX9_nextSign_193 : decode cX9_nextSign 193 = .ok (.goto 132, 3) := by decide +kernel
theorem dX9_nextSign_196 : decode cX9_nextSign 196 = .ok (.aload_n 0, 1) := by decide +kernel
theorem dX9_nextSign_197 : decode cX9_nextSign 197 = .ok (.bipush 14, 2) := by decide +kernel
theorem dX9_nextSign_199 : decode cX9_nextSign 199 = .ok (.putfield 78, 3) := by decide +kernel
theorem dX9_nextSign_202 : decode cX9_nextSign 202 = .ok (.goto 123, 3) := by decide +kernel
theorem dX9_nextSign_205 : decode cX9_nextSign 205 = .ok (.aload_n 0, 1) := by decide +kernel
theorem dX9_nextSign_206 : decode cX9_nextSign 206 = .ok (.bipush 15, 2) := by decide +kernel
theorem dX9_nextSign_208 : decode cX9_nextSign 208 = .ok (.putfield 78, 3) := by decide +kernel
theorem dX9_nextSign_211 : decode cX9_nextSign 211 = .ok (.goto 114, 3) := by decide +kernel
theorem dX9_nextSign_214 : decode cX9_nextSign 214 = .ok (.aload_n 0, 1) := by decide +kernel
theorem dX9_nextSign_215 : decode cX9_nextSign 215 = .ok (.bipush 8, 2) := by decide +kernel
theorem dX9_nextSign_217 : decode cX9_nextSign 217 = .ok (.putfield 78, 3) := by decide +kernel
theorem dX9_nextSign_220 : decode cX9_nextSign 220 = .ok (.goto 105, 3) := by decide +kernel
theorem dX9_nextSign_223 : decode cX9_nextSign 223 = .ok (.aload_n 0, 1) := by decide +kernel
theorem dX9_nextSign_224 : decode cX9_nextSign 224 = .ok (.iload_n 2, 1) := by decide +kernel
theorem dX9_nextSign_225 : decode cX9_nextSign 225 = .ok (.bipush 61, 2) := by decide +kernel
theorem dX9_nextSign_227 : decode cX9_nextSign 227 = .ok (.if_icmp .ne 8, 3) := by decide +kernel
theorem dX9_nextSign_230 : decode cX9_nextSign 230 = .ok (.bipush 7, 2) := by decide +kernel
theorem dX9_nextSign_232 : decode cX9_nextSign 232 = .ok (.goto 16, 3) := by decide +kernel
theorem dX9_nextSign_235 : decode cX9_nextSign 235 = .ok (.iload_n 2, 1) := by decide +kernel
theorem dX9_nextSign_236 : decode cX9_nextSign 236 = .ok (.bipush 62, 2) := by decide +kernel
theorem dX9_nextSign_238 : decode cX9_nextSign 238 = .ok (.if_icmp .ne 8, 3) := by decide +kernel
theorem dX9_nextSign_241 : decode cX9_nextSign 241 = .ok (.bipush 9, 2) := by decide +kernel
theorem dX9_nextSign_243 : decode cX9_nextSign 243 = .ok (.goto 5, 3) := by decide +kernel
theorem dX9_nextSign_246 : decode cX9_nextSign 246 = .ok (.bipush 6, 2) := by decide +kernel
theorem dX9_nextSign_248 : decode cX9_nextSign 248 = .ok (.putfield 78, 3) := by decide +kernel
theorem dX9_nextSign_251 : decode cX9_nextSign 251 = .ok (.aload_n 0, 1) := by decide +kernel
theorem dX9_nextSign_252 : decode cX9_nextSign 252 = .ok (.dup, 1) := by decide +kernel
theorem dX9_nextSign_253 : decode cX9_nextSign 253 = .ok (.getfield 43, 3) := by decide +kernel
theorem dX9_nextSign_256 : decode cX9_nextSign 256 = .ok (.aload_n 0, 1) := by decide +kernel
theorem dX9_nextSign_257 : decode cX9_nextSign 257 = .ok (.getfield 78, 3) := by decide +kernel
theorem dX9_nextSign_260 : decode cX9_nextSign 260 = .ok (.bipush 6, 2) := by decide +kernel
theorem dX9_nextSign_262 : decode cX9_nextSign 262 = .ok (.if_icmp .ne 7, 3) := by decide +kernel
theorem dX9_nextSign_265 : decode cX9_nextSign 265 = .ok (.iconst 0, 1) := by decide +kernel
theorem dX9_nextSign_266 : decode cX9_nextSign 266 = .ok (.goto 4, 3) := by decide +kernel
theorem dX9_nextSign_269 : decode cX9_nextSign 269 = .ok (.iconst 1, 1) := by decide +kernel
theorem dX9_nextSign_270 : decode cX9_nextSign 270 = .ok (.iadd, 1) := by decide +kernel
theorem dX9_nextSign_271 : decode cX9_nextSign 271 = .ok (.putfield 43, 3) := by decide +kernel
theorem dX9_nextSign_274 : decode cX9_nextSign 274 = .ok (.goto 51, 3) := by decide +kernel
theorem dX9_nextSign_277 : decode cX9_nextSign 277 = .ok (.aload_n 0, 1) := by decide +kernel
theorem dX9_nextSign_278 : decode cX9_nextSign 278 = .ok (.iload_n 2, 1) := by decide +kernel
theorem dX9_nextSign_279 : decode cX9_nextSign 279 = .ok (.bipush 61, 2) := by decide +kernel
theorem dX9_nextSign_281 : decode cX9_nextSign 281 = .ok (.if_icmp .ne 8, 3) := by decide +kernel
theorem dX9_nextSign_284 : decode cX9_nextSign 284 = .ok (.bipush 10, 2) := by decide +kernel
theorem dX9_nextSign_286 : decode cX9_nextSign 286 = .ok (.goto 5, 3) := by decide +kernel
theorem dX9_nextSign_289 : decode cX9_nextSign 289 = .ok (.bipush 11, 2) := by decide +kernel
theorem dX9_nextSign_291 : decode cX9_nextSign 291 = .ok (.putfield 78, 3) := by decide +kernel
theorem dX9_nextSign_294 : decode cX9_nextSign 294 = .ok (.aload_n 0, 1) := by decide +kernel
theorem dX9_nextSign_295 : decode cX9_nextSign 295 = .ok (.dup, 1) := by decide +kernel
theorem dX9_nextSign_296 : decode cX9_nextSign 296 = .ok (.getfield 43, 3) := by decide +kernel
theorem dX9_nextSign_299 : decode cX9_nextSign 299 = .ok (.aload_n 0, 1) := by decide +kernel
theorem dX9_nextSign_300 : decode cX9_nextSign 300 = .ok (.getfield 78, 3) := by decide +kernel
theorem dX9_nextSign_303 : decode cX9_nextSign 303 = .ok (.bipush 11, 2) := by decide +kernel
theorem dX9_nextSign_305 : decode cX9_nextSign 305 = .ok (.if_icmp .ne 7, 3) := by decide +kernel
theorem dX9_nextSign_308 : decode cX9_nextSign 308 = .ok (.iconst 0, 1) := by decide +kernel
theorem dX9_nextSign_309 : decode cX9_nextSign 309 = .ok (.goto 4, 3) := by decide +kernel
theorem dX9_nextSign_312 : decode cX9_nextSign 312 = .ok (.iconst 1, 1) := by decide +kernel
theorem dX9_nextSign_313 : decode cX9_nextSign 313 = .ok (.iadd, 1) := by decide +kernel
theorem dX9_nextSign_314 : decode cX9_nextSign 314 = .ok (.putfield 43, 3) := by decide +kernel
theorem dX9_nextSign_317 : decode cX9_nextSign 317 = .ok (.goto 8, 3) := by decide +kernel
theorem dX9_nextSign_320 : decode cX9_nextSign 320 = .ok (.aload_n 0, 1) := by decide +kernel
theorem dX9_nextSign_321 : decode cX9_nextSign 321 = .ok (.iconst 1, 1) := by decide +kernel
theorem dX9_nextSign_322 : decode cX9_nextSign 322 = .ok (.putfield 60, 3) := by decide +kernel
theorem dX9_nextSign_325 : decode cX9_nextSign 325 = .ok (.return_, 1) := by decide +kernel
theorem dX10_init_0 : decode cX10_init 0 = .ok (.aload_n 0, 1) := by decide +kernel
theorem dX10_init_1 : decode cX10_init 1 = .ok (.invokespecial 3, 3) := by decide +kernel
theorem dX10_init_4 : decode cX10_init 4 = .ok (.aload_n 0, 1) := by decide +kernel
theorem dX10_init_5 : decode cX10_init 5 = .ok (.new 9, 3) := by decide +kernel
theorem dX10_init_8 : decode cX10_init 8 = .ok (.dup, 1) := by decide +kernel
theorem dX10_init_9 : decode cX10_init 9 = .ok (.bipush 6, 2) := by decide +kernel
theorem dX10_init_11 : decode cX10_init 11 = .ok (.invokespecial 11, 3) := by decide +kernel
theorem dX10_init_14 : decode cX10_init 14 = .ok (.putfield 14, 3) := by decide +kernel
theorem dX10_init_17 : decode cX10_init 17 = .ok (.aload_n 0, 1) := by decide +kernel
theorem dX10_init_18 : decode cX10_init 18 = .ok (.new 9, 3) := by decide +kernel
theorem dX10_init_21 : decode cX10_init 21 = .ok (.dup, 1) := by decide +kernel
theorem dX10_init_22 : decode cX10_init 22 = .ok (.bipush 6, 2) := by decide +kernel
theorem dX10_init_24 : decode cX10_init 24 = .ok (.invokespecial 11, 3) := by decide +kernel
theorem dX10_init_27 : decode cX10_init 27 = .ok (.putfield 20, 3) := by decide +kernel
theorem dX10_init_30 : decode cX10_init 30 = .ok (.aload_n 0, 1) := by decide +kernel
theorem dX10_init_31 : decode cX10_init 31 = .ok (.new 9, 3) := by decide +kernel
theorem dX10_init_34 : decode cX10_init 34 = .ok (.dup, 1) := by decide +kernel
theorem dX10_init_35 : decode cX10_init 35 = .ok (.bipush 6, 2) := by decide +kernel
theorem dX10_init_37 : decode cX10_init 37 = .ok (.invokespecial 11, 3) := by decide +kernel
theorem dX10_init_40 : decode cX10_init 40 = .ok (.putfield 23, 3) := by decide +kernel
theorem dX10_init_43 : decode cX10_init 43 = .ok (.aload_n 0, 1) := by decide +kernel
theorem dX10_init_44 : decode cX10_init 44 = .ok (.new 9, 3) := by decide +kernel
theorem dX10_init_47 : decode cX10_init 47 = .ok (.dup, 1) := by decide +kernel
theorem dX10_init_48 : decode cX10_init 48 = .ok (.bipush 12, 2) := by decide +kernel
theorem dX10_init_50 : decode cX10_init 50 = .ok (.invokespecial 11, 3) := by decide +kernel
theorem dX10_init_53 : decode cX10_init 53 = .ok (.putfield 26, 3) := by decide +kernel
theorem dX10_init_56 : decode cX10_init 56 = .ok (.aload_n 0, 1) := by decide +kernel
theorem dX10_init_57 : decode cX10_init 57 = .ok (.new 9, 3) := by decide +kernel
theorem dX10_init_60 : decode cX10_init 60 = .ok (.dup, 1) := by decide +kernel
theorem dX10_init_61 : decode cX10_init 61 = .ok (.bipush 10, 2) := by decide +kernel
theorem dX10_init_63 : decode cX10_init 63 = .ok (.invokespecial 11, 3) := by decide +kernel
theorem dX10_init_66 : decode cX10_init 66 = .ok (.putfield 29, 3) := by decide +kernel
theorem dX10_init_69 : decode cX10_init 69 = .ok (.aload_n 0, 1) := by decide +kernel
theorem dX10_init_70 : decode cX10_init 70 = .ok (.new 9, 3) := by decide +kernel
theorem dX10_init_73 : decode cX10_init 73 = .ok (.dup, 1) := by decide +kernel
theorem dX10_init_74 : decode cX10_init 74 = .ok (.bipush 10, 2) := by decide +kernel
theorem dX10_init_76 : decode cX10_init 76 = .ok (.invokespecial 11, 3) := by decide +kernel
theorem dX10_init_79 : decode cX10_init 79 = .ok (.putfield 32, 3) := by decide +kernel
theorem dX10_init_82 : decode cX10_init 82 = .ok (.aload_n 0, 1) := by decide +kernel
theorem dX10_init_83 : decode cX10_init 83 = .ok (.new 9, 3) := by decide +kernel
theorem dX10_init_86 : decode cX10_init 86 = .ok (.dup, 1) := by decide +kernel
theorem dX10_init_87 : decode cX10_init 87 = .ok (.iconst 5, 1) := by decide +kernel
theorem dX10_init_88 : decode cX10_init 88 = .ok (.invokespecial 11, 3) := by decide +kernel
theorem dX10_init_91 : decode cX10_init 91 = .ok (.putfield 35, 3) := by decide +kernel
theorem dX10_init_94 : decode cX10_init 94 = .ok (.aload_n 0, 1) := by decide +kernel
theorem dX10_init_95 : decode cX10_init 95 = .ok (.new 9, 3) := by decide +kernel
theorem dX10_init_98 : decode cX10_init 98 = .ok (.dup, 1) := by decide +kernel
theorem dX10_init_99 : decode cX10_init 99 = .ok (.iconst 5, 1) := by decide +kernel
theorem dX10_init_100 : decode cX10_init 100 = .ok (.invokespecial 11, 3) := by decide +kernel
theorem dX10_init_103 : decode cX10_init 103 = .ok (.putfield 38, 3) := by decide +kernel
theorem dX10_init_106 : decode cX10_init 106 = .ok (.aload_n 0, 1) := by decide +kernel
theorem dX10_init_107 : decode cX10_init 107 = .ok (.new 9, 3) := by decide +kernel
theorem dX10_init_110 : decode cX10_init 110 = .ok (.dup, 1) := by decide +kernel
theorem dX10_init_111 : decode cX10_init 111 = .ok (.iconst 5, 1) := by decide +kernel
theorem dX10_init_112 : decode cX10_init 112 = .ok (.invokespecial 11, 3) := by decide +kernel
theorem dX10_init_115 : decode cX10_init 115 = .ok (.putfield 41, 3) := by decide +kernel
theorem dX10_init_118 : decode cX10_init 118 = .ok (.aload_n 0, 1) := by decide +kernel
theorem dX10_init_119 : decode cX10_init 119 = .ok (.new 9, 3) := by decide +kernel
theorem dX10_init_122 : decode cX10_init 122 = .ok (.dup, 1) := by decide +kernel
theorem dX10_init_123 : decode cX10_init 123 = .ok (.iconst 5, 1) := by decide +kernel
theorem dX10_init_124 : decode cX10_init 124 = .ok (.invokespecial 11, 3) := by decide +kernel
theorem dX10_init_127 : decode cX10_init 127 = .ok (.putfield 44, 3) := by decide +kernel
theorem dX10_init_130 : decode cX10_init 130 = .ok (.aload_n 0, 1) := by decide +kernel
theorem dX10_init_131 : decode cX10_init 131 = .ok (.new 47, 3) := by decide +kernel
theorem dX10_init_134 : decode cX10_init 134 = .ok (.dup, 1) := by decide +kernel
theorem dX10_init_135 : decode cX10_init 135 = .ok (.invokespecial 49, 3) := by decide +kernel
theorem dX10_init_138 : decode cX10_init 138 = .ok (.putfield 50, 3) := by decide +kernel
theorem dX10_init_141 : decode cX10_init 141 = .ok (.return_, 1) := by decide +kernel
theorem dX10_clear_0 : decode cX10_clear 0 = .ok (.aload_n 0, 1) := by decide +kernel
theorem dX10_clear_1 : decode cX10_clear 1 = .ok (.iconst 0, 1) := by decide +kernel
theorem dX10_clear_2 : decode cX10_clear 2 = .ok (.putfield 54, 3) := by decide +kernel
theorem dX10_clear_5 : decode cX10_clear 5 = .ok (.aload_n 0, 1) := by decide +kernel
theorem dX10_clear_6 : decode cX10_clear 6 = .ok (.iconst 0, 1) := by decide +kernel
theorem dX10_clear_7 : decode cX10_clear 7 = .ok (.putfield 58, 3) := by decide +kernel
theorem dX10_clear_10 : decode cX10_clear 10 = .ok (.aload_n 0, 1) := by decide +kernel
theorem dX10_clear_11 : decode cX10_clear 11 = .ok (.iconst 0, 1) := by decide +kernel
theorem dX10_clear_12 : decode cX10_clear 12 = .ok (.putfield 61, 3) := by decide +kernel
theorem dX10_clear_15 : decode cX10_clear 15 = .ok (.aload_n 0, 1) := by decide +kernel
theorem dX10_clear_16 : decode cX10_clear 16 = .ok (.iconst 0, 1) := by decide +kernel
theorem dX10_clear_17 : decode cX10_clear 17 = .ok (.putfield 64, 3) := by decide +kernel
theorem dX10_clear_20 : decode cX10_clear 20 = .ok (.aload_n 0, 1) := by decide +kernel
theorem dX10_clear_21 : decode cX10_clear 21 = .ok (.iconst 0, 1) := by decide +kernel
theorem dX10_clear_22 : decode cX10_clear 22 = .ok (.putfield 67, 3) := by decide +kernel
theorem dX10_clear_25 : decode cX10_clear 25 = .ok (.aload_n 0, 1) := by decide +kernel
theorem dX10_clear_26 : decode cX10_clear 26 = .ok (.iconst 0, 1) := by decide +kernel
theorem dX10_clear_27 : decode cX10_clear 27 = .ok (.putfield 70, 3) := by decide +kernel
theorem dX10_clear_30 : decode cX10_clear 30 = .ok (.aload_n 0, 1) := by decide +kernel
theorem dX10_clear_31 : decode cX10_clear 31 = .ok (.iconst 0, 1) := by decide +kernel
theorem dX10_clear_32 : decode cX10_clear 32 = .ok (.putfield 73, 3) := by decide +kernel
theorem dX10_clear_35 : decode cX10_clear 35 = .ok (.aload_n 0, 1) := by decide +kernel
theorem dX10_clear_36 : decode cX10_clear 36 = .ok (.getfield 50, 3) := by decide +kernel
theorem dX10_clear_39 : decode cX10_clear 39 = .ok (.invokevirtual 76, 3) := by decide +kernel
theorem dX10_clear_42 : decode cX10_clear 42 = .ok (.return_, 1) := by decide +kernel
theorem dX10_hasTrade_0 : decode cX10_hasTrade 0 = .ok (.iload_n 1, 1) := by decide +kernel
theorem dX10_hasTrade_1 : decode cX10_hasTrade 1 = .ok (.ifCond .lt 15, 3) := by decide +kernel
theorem dX10_hasTrade_4 : decode cX10_hasTrade 4 = .ok (.iload_n 1, 1) := by decide +kernel
theorem dX10_hasTrade_5 : decode cX10_hasTrade 5 = .ok (.aload_n 0, 1) := by decide +kernel
theorem dX10_hasTrade_6 : decode cX10_hasTrade 6 = .ok (.getfield 58, 3) := by decide +kernel
theorem dX10_hasTrade_9 : decode cX10_hasTrade 9 = .ok (.if_icmp .ge 7, 3) := by decide +kernel
theorem dX10_hasTrade_12 : decode cX10_hasTrade 12 = .ok (.iconst 1, 1) := by decide +kernel
theorem dX10_hasTrade_13 : decode cX10_hasTrade 13 = .ok (.goto 4, 3) := by decide +kernel
theorem dX10_hasTrade_16 : decode cX10_hasTrade 16 = .ok (.iconst 0, 1) := by decide +kernel
theorem dX10_hasTrade_17 : decode cX10_hasTrade 17 = .ok (.ireturn, 1) := by decide +kernel
theorem dX10_hasWork_0 : decode cX10_hasWork 0 = .ok (.iload_n 1, 1) := by decide +kernel
theorem dX10_hasWork_1 : decode cX10_hasWork 1 = .ok (.ifCond .lt 15, 3) := by decide +kernel
theorem dX10_hasWork_4 : decode cX10_hasWork 4 = .ok (.iload_n 1, 1) := by decide +kernel
theorem dX10_hasWork_5 : decode cX10_hasWork 5 = .ok (.aload_n 0, 1) := by decide +kernel
theorem dX10_hasWork_6 : decode cX10_hasWork 6 = .ok (.getfield 67, 3) := by decide +kernel
theorem dX10_hasWork_9 : decode cX10_hasWork 9 = .ok (.if_icmp .ge 7, 3) := by decide +kernel
theorem dX10_hasWork_12 : decode cX10_hasWork 12 = .ok (.iconst 1, 1) := by decide +kernel
theorem dX10_hasWork_13 : decode cX10_hasWork 13 = .ok (.goto 4, 3) := by decide +kernel
theorem dX10_hasWork_16 : decode cX10_hasWork 16 = .ok (.iconst 0, 1) := by decide +kernel
theorem dX10_hasWork_17 : decode cX10_hasWork 17 = .ok (.ireturn, 1) := by decide +kernel
theorem dX10_tradeNamed_0 : decode cX10_tradeNamed 0 = .ok (.aload_n 0, 1) := by decide +kernel
theorem dX10_tradeNamed_1 : decode cX10_tradeNamed 1 = .ok (.getfield 14, 3) := by decide +kernel
theorem dX10_tradeNamed_4 : decode cX10_tradeNamed 4 = .ok (.aload_n 0, 1) := by decide +kernel
theorem dX10_tradeNamed_5 : decode cX10_tradeNamed 5 = .ok (.getfield 58, 3) := by decide +kernel
theorem dX10_tradeNamed_8 : decode cX10_tradeNamed 8 = .ok (.iload_n 1, 1) := by decide +kernel
theorem dX10_tradeNamed_9 : decode cX10_tradeNamed 9 = .ok (.invokestatic 79, 3) := by decide +kernel
theorem dX10_tradeNamed_12 : decode cX10_tradeNamed 12 = .ok (.ireturn, 1) := by decide +kernel
theorem dX10_workNamed_0 : decode cX10_workNamed 0 = .ok (.aload_n 0, 1) := by decide +kernel
theorem dX10_workNamed_1 : decode cX10_workNamed 1 = .ok (.getfield 35, 3) := by decide +kernel
theorem dX10_workNamed_4 : decode cX10_workNamed 4 = .ok (.aload_n 0, 1) := by decide +kernel
theorem dX10_workNamed_5 : decode cX10_workNamed 5 = .ok (.getfield 67, 3) := by decide +kernel
theorem dX10_workNamed_8 : decode cX10_workNamed 8 = .ok (.iload_n 1, 1) := by decide +kernel
theorem dX10_workNamed_9 : decode cX10_workNamed 9 = .ok (.invokestatic 79, 3) := by decide +kernel
theorem dX10_workNamed_12 : decode cX10_workNamed 12 = .ok (.ireturn, 1) := by decide +kernel
theorem dX10_claimant_0 : decode cX10_claimant 0 = .ok (.aload_n 0, 1) := by decide +kernel
theorem dX10_claimant_1 : decode cX10_claimant 1 = .ok (.getfield 32, 3) := by decide +kernel
theorem dX10_claimant_4 : decode cX10_claimant 4 = .ok (.aload_n 0, 1) := by decide +kernel
theorem dX10_claimant_5 : decode cX10_claimant 5 = .ok (.getfield 64, 3) := by decide +kernel
theorem dX10_claimant_8 : decode cX10_claimant 8 = .ok (.iload_n 1, 1) := by decide +kernel
theorem dX10_claimant_9 : decode cX10_claimant 9 = .ok (.invokestatic 79, 3) := by decide +kernel
theorem dX10_claimant_12 : decode cX10_claimant 12 = .ok (.istore_n 2, 1) := by decide +kernel
theorem dX10_claimant_13 : decode cX10_claimant 13 = .ok (.iload_n 2, 1) := by decide +kernel
theorem dX10_claimant_14 : decode cX10_claimant 14 = .ok (.iconst (-1), 1) := by decide +kernel
theorem dX10_claimant_15 : decode cX10_claimant 15 = .ok (.if_icmp .ne 7, 3) := by decide +kernel
theorem dX10_claimant_18 : decode cX10_claimant 18 = .ok (.iconst (-1), 1) := by decide +kernel
theorem dX10_claimant_19 : decode cX10_claimant 19 = .ok (.goto 11, 3) := by decide +kernel
theorem dX10_claimant_22 : decode cX10_claimant 22 = .ok (.aload_n 0, 1) := by decide +kernel
theorem dX10_claimant_23 : decode cX10_claimant 23 = .ok (.getfield 29, 3) := by decide +kernel
theorem dX10_claimant_26 : decode cX10_claimant 26 = .ok (.iload_n 2, 1) := by decide +kernel
theorem dX10_claimant_27 : decode cX10_claimant 27 = .ok (.invokevirtual 83, 3) := by decide +kernel
theorem dX10_claimant_30 : decode cX10_claimant 30 = .ok (.ireturn, 1) := by decide +kernel
theorem dX10_find_0 : decode cX10_find 0 = .ok (.iconst 0, 1) := by decide +kernel
theorem dX10_find_1 : decode cX10_find 1 = .ok (.istore_n 3, 1) := by decide +kernel
theorem dX10_find_2 : decode cX10_find 2 = .ok (.iload_n 3, 1) := by decide +kernel
theorem dX10_find_3 : decode cX10_find 3 = .ok (.iload_n 1, 1) := by decide +kernel
theorem dX10_find_4 : decode cX10_find 4 = .ok (.if_icmp .ge 20, 3) := by decide +kernel
theorem dX10_find_7 : decode cX10_find 7 = .ok (.aload_n 0, 1) := by decide +kernel
theorem dX10_find_8 : decode cX10_find 8 = .ok (.iload_n 3, 1) := by decide +kernel
theorem dX10_find_9 : decode cX10_find 9 = .ok (.invokevirtual 83, 3) := by decide +kernel
theorem dX10_find_12 : decode cX10_find 12 = .ok (.iload_n 2, 1) := by decide +kernel
theorem dX10_find_13 : decode cX10_find 13 = .ok (.if_icmp .ne 5, 3) := by decide +kernel
theorem dX10_find_16 : decode cX10_find 16 = .ok (.iload_n 3, 1) := by decide +kernel
theorem dX10_find_17 : decode cX10_find 17 = .ok (.ireturn, 1) := by decide +kernel
theorem dX10_find_18 : decode cX10_find 18 = .ok (.iinc 3 1, 3) := by decide +kernel
theorem dX10_find_21 : decode cX10_find 21 = .ok (.goto (-19), 3) := by decide +kernel
theorem dX10_find_24 : decode cX10_find 24 = .ok (.iconst (-1), 1) := by decide +kernel
theorem dX10_find_25 : decode cX10_find 25 = .ok (.ireturn, 1) := by decide +kernel
theorem dX11_init_0 : decode cX11_init 0 = .ok (.aload_n 0, 1) := by decide +kernel
theorem dX11_init_1 : decode cX11_init 1 = .ok (.invokespecial 1, 3) := by decide +kernel
theorem dX11_init_4 : decode cX11_init 4 = .ok (.aload_n 0, 1) := by decide +kernel
theorem dX11_init_5 : decode cX11_init 5 = .ok (.new 7, 3) := by decide +kernel
theorem dX11_init_8 : decode cX11_init 8 = .ok (.dup, 1) := by decide +kernel
theorem dX11_init_9 : decode cX11_init 9 = .ok (.sipush 700, 3) := by decide +kernel
theorem dX11_init_12 : decode cX11_init 12 = .ok (.invokespecial 11, 3) := by decide +kernel
theorem dX11_init_15 : decode cX11_init 15 = .ok (.putfield 14, 3) := by decide +kernel
theorem dX11_init_18 : decode cX11_init 18 = .ok (.aload_n 0, 1) := by decide +kernel
theorem dX11_init_19 : decode cX11_init 19 = .ok (.new 18, 3) := by decide +kernel
theorem dX11_init_22 : decode cX11_init 22 = .ok (.dup, 1) := by decide +kernel
theorem dX11_init_23 : decode cX11_init 23 = .ok (.invokespecial 20, 3) := by decide +kernel
theorem dX11_init_26 : decode cX11_init 26 = .ok (.putfield 21, 3) := by decide +kernel
theorem dX11_init_29 : decode cX11_init 29 = .ok (.aload_n 0, 1) := by decide +kernel
theorem dX11_init_30 : decode cX11_init 30 = .ok (.new 25, 3) := by decide +kernel
theorem dX11_init_33 : decode cX11_init 33 = .ok (.dup, 1) := by decide +kernel
theorem dX11_init_34 : decode cX11_init 34 = .ok (.invokespecial 27, 3) := by decide +kernel
theorem dX11_init_37 : decode cX11_init 37 = .ok (.putfield 28, 3) := by decide +kernel
theorem dX11_init_40 : decode cX11_init 40 = .ok (.aload_n 0, 1) := by decide +kernel
theorem dX11_init_41 : decode cX11_init 41 = .ok (.new 25, 3) := by decide +kernel
theorem dX11_init_44 : decode cX11_init 44 = .ok (.dup, 1) := by decide +kernel
theorem dX11_init_45 : decode cX11_init 45 = .ok (.invokespecial 27, 3) := by decide +kernel
theorem dX11_init_48 : decode cX11_init 48 = .ok (.putfield 32, 3) := by decide +kernel
theorem dX11_init_51 : decode cX11_init 51 = .ok (.aload_n 0, 1) := by decide +kernel
theorem dX11_init_52 : decode cX11_init 52 = .ok (.new 35, 3) := by decide +kernel
theorem dX11_init_55 : decode cX11_init 55 = .ok (.dup, 1) := by decide +kernel
theorem dX11_init_56 : decode cX11_init 56 = .ok (.invokespecial 37, 3) := by decide +kernel
theorem dX11_init_59 : decode cX11_init 59 = .ok (.putfield 38, 3) := by decide +kernel
theorem dX11_init_62 : decode cX11_init 62 = .ok (.aload_n 0, 1) := by decide +kernel
theorem dX11_init_63 : decode cX11_init 63 = .ok (.new 35, 3) := by decide +kernel
theorem dX11_init_66 : decode cX11_init 66 = .ok (.dup, 1) := by decide +kernel
theorem dX11_init_67 : decode cX11_init 67 = .ok (.invokespecial 37, 3) := by decide +kernel
theorem dX11_init_70 : decode cX11_init 70 = .ok (.putfield 42, 3) := by decide +kernel
theorem dX11_init_73 : decode cX11_init 73 = .ok (.aload_n 0, 1) := by decide +kernel
theorem dX11_init_74 : decode cX11_init 74 = .ok (.new 35, 3) := by decide +kernel
theorem dX11_init_77 : decode cX11_init 77 = .ok (.dup, 1) := by decide +kernel
theorem dX11_init_78 : decode cX11_init 78 = .ok (.invokespecial 37, 3) := by decide +kernel
theorem dX11_init_81 : decode cX11_init 81 = .ok (.putfield 45, 3) := by decide +kernel
theorem dX11_init_84 : decode cX11_init 84 = .ok (.aload_n 0, 1) := by decide +kernel
theorem dX11_init_85 : decode cX11_init 85 = .ok (.new 48, 3) := by decide +kernel
theorem dX11_init_88 : decode cX11_init 88 = .ok (.dup, 1) := by decide +kernel
theorem dX11_init_89 : decode cX11_init 89 = .ok (.invokespecial 50, 3) := by decide +kernel
theorem dX11_init_92 : decode cX11_init 92 = .ok (.putfield 51, 3) := by decide +kernel
theorem dX11_init_95 : decode cX11_init 95 = .ok (.aload_n 0, 1) := by decide +kernel
theorem dX11_init_96 : decode cX11_init 96 = .ok (.new 55, 3) := by decide +kernel
theorem dX11_init_99 : decode cX11_init 99 = .ok (.dup, 1) := by decide +kernel
theorem dX11_init_100 : decode cX11_init 100 = .ok (.invokespecial 57, 3) := by decide +kernel
theorem dX11_init_103 : decode cX11_init 103 = .ok (.putfield 58, 3) := by decide +kernel
theorem dX11_init_106 : decode cX11_init 106 = .ok (.aload_n 0, 1) := by decide +kernel
theorem dX11_init_107 : decode cX11_init 107 = .ok (.new 62, 3) := by decide +kernel
theorem dX11_init_110 : decode cX11_init 110 = .ok (.dup, 1) := by decide +kernel
theorem dX11_init_111 : decode cX11_init 111 = .ok (.invokespecial 64, 3) := by decide +kernel
theorem dX11_init_114 : decode cX11_init 114 = .ok (.putfield 65, 3) := by decide +kernel
theorem dX11_init_117 : decode cX11_init 117 = .ok (.aload_n 0, 1) := by decide +kernel
theorem dX11_init_118 : decode cX11_init 118 = .ok (.new 69, 3) := by decide +kernel
theorem dX11_init_121 : decode cX11_init 121 = .ok (.dup, 1) := by decide +kernel
theorem dX11_init_122 : decode cX11_init 122 = .ok (.invokespecial 71, 3) := by decide +kernel
theorem dX11_init_125 : decode cX11_init 125 = .ok (.putfield 72, 3) := by decide +kernel
theorem dX11_init_128 : decode cX11_init 128 = .ok (.aload_n 0, 1) := by decide +kernel
theorem dX11_init_129 : decode cX11_init 129 = .ok (.new 76, 3) := by decide +kernel
theorem dX11_init_132 : decode cX11_init 132 = .ok (.dup, 1) := by decide +kernel
theorem dX11_init_133 : decode cX11_init 133 = .ok (.invokespecial 78, 3) := by decide +kernel
theorem dX11_init_136 : decode cX11_init 136 = .ok (.putfield 79, 3) := by decide +kernel
theorem dX11_init_139 : decode cX11_init 139 = .ok (.return_, 1) := by decide +kernel
theorem dX11_feed_0 : decode cX11_feed 0 = .ok (.aload_n 0, 1) := by decide +kernel
theorem dX11_feed_1 : decode cX11_feed 1 = .ok (.getfield 83, 3) := by decide +kernel
theorem dX11_feed_4 : decode cX11_feed 4 = .ok (.bipush 20, 2) := by decide +kernel
theorem dX11_feed_6 : decode cX11_feed 6 = .ok (.iadd, 1) := by decide +kernel
theorem dX11_feed_7 : decode cX11_feed 7 = .ok (.sipush 700, 3) := by decide +kernel
theorem dX11_feed_10 : decode cX11_feed 10 = .ok (.if_icmp .le 5, 3) := by decide +kernel
theorem dX11_feed_13 : decode cX11_feed 13 = .ok (.iconst (-1), 1) := by decide +kernel
theorem dX11_feed_14 : decode cX11_feed 14 = .ok (.ireturn, 1) := by decide +kernel
theorem dX11_feed_15 : decode cX11_feed 15 = .ok (.aload_n 0, 1) := by decide +kernel
theorem dX11_feed_16 : decode cX11_feed 16 = .ok (.iload_n 1, 1) := by decide +kernel
theorem dX11_feed_17 : decode cX11_feed 17 = .ok (.invokevirtual 87, 3) := by decide +kernel
theorem dX11_feed_20 : decode cX11_feed 20 = .ok (.aload_n 0, 1) := by decide +kernel
theorem dX11_feed_21 : decode cX11_feed 21 = .ok (.iload_n 2, 1) := by decide +kernel
theorem dX11_feed_22 : decode cX11_feed 22 = .ok (.invokevirtual 87, 3) := by decide +kernel
theorem dX11_feed_25 : decode cX11_feed 25 = .ok (.aload_n 0, 1) := by decide +kernel
theorem dX11_feed_26 : decode cX11_feed 26 = .ok (.iload_n 3, 1) := by decide +kernel
theorem dX11_feed_27 : decode cX11_feed 27 = .ok (.invokevirtual 87, 3) := by decide +kernel
theorem dX11_feed_30 : decode cX11_feed 30 = .ok (.aload_n 0, 1) := by decide +kernel
theorem dX11_feed_31 : decode cX11_feed 31 = .ok (.iload 4, 2) := by decide +kernel
theorem dX11_feed_33 : decode cX11_feed 33 = .ok (.invokevirtual 87, 3) := by decide +kernel
theorem dX11_feed_36 : decode cX11_feed 36 = .ok (.aload_n 0, 1) := by decide +kernel
theorem dX11_feed_37 : decode cX11_feed 37 = .ok (.iload 5, 2) := by decide +kernel
theorem dX11_feed_39 : decode cX11_feed 39 = .ok (.invokevirtual 87, 3) := by decide +kernel
theorem dX11_feed_42 : decode cX11_feed 42 = .ok (.aload_n 0, 1) := by decide +kernel
theorem dX11_feed_43 : decode cX11_feed 43 = .ok (.getfield 83, 3) := by decide +kernel
theorem dX11_feed_46 : decode cX11_feed 46 = .ok (.ireturn, 1) := by decide +kernel
theorem dX11_tapeNumber_0 : decode cX11_tapeNumber 0 = .ok (.bipush 24, 2) := by decide +kernel
theorem dX11_tapeNumber_2 : decode cX11_tapeNumber 2 = .ok (.istore_n 2, 1) := by decide +kernel
theorem dX11_tapeNumber_3 : decode cX11_tapeNumber 3 = .ok (.iload_n 2, 1) := by decide +kernel
theorem dX11_tapeNumber_4 : decode cX11_tapeNumber 4 = .ok (.ifCond .lt 37, 3) := by decide +kernel
theorem dX11_tapeNumber_7 : decode cX11_tapeNumber 7 = .ok (.aload_n 0, 1) := by decide +kernel
theorem dX11_tapeNumber_8 : decode cX11_tapeNumber 8 = .ok (.getfield 14, 3) := by decide +kernel
theorem dX11_tapeNumber_11 : decode cX11_tapeNumber 11 = .ok (.aload_n 0, 1) := by decide +kernel
theorem dX11_tapeNumber_12 : decode cX11_tapeNumber 12 = .ok (.getfield 83, 3) := by decide +kernel
theorem dX11_tapeNumber_15 : decode cX11_tapeNumber 15 = .ok (.iload_n 1, 1) := by decide +kernel
theorem dX11_tapeNumber_16 : decode cX11_tapeNumber 16 = .ok (.iload_n 2, 1) := by decide +kernel
theorem dX11_tapeNumber_17 : decode cX11_tapeNumber 17 = .ok (.ishr, 1) := by decide +kernel
theorem dX11_tapeNumber_18 : decode cX11_tapeNumber 18 = .ok (.sipush 255, 3) := by decide +kernel
theorem dX11_tapeNumber_21 : decode cX11_tapeNumber 21 = .ok (.iand, 1) := by decide +kernel
theorem dX11_tapeNumber_22 : decode cX11_tapeNumber 22 = .ok (.invokevirtual 90, 3) := by decide +kernel
theorem dX11_tapeNumber_25 : decode cX11_tapeNumber 25 = .ok (.aload_n 0, 1) := by decide +kernel
theorem dX11_tapeNumber_26 : decode cX11_tapeNumber 26 = .ok (.dup, 1) := by decide +kernel
theorem dX11_tapeNumber_27 : decode cX11_tapeNumber 27 = .ok (.getfield 83, 3) := by decide +kernel
theorem dX11_tapeNumber_30 : decode cX11_tapeNumber 30 = .ok (.iconst 1, 1) := by decide +kernel
theorem dX11_tapeNumber_31 : decode cX11_tapeNumber 31 = .ok (.iadd, 1) := by decide +kernel
theorem dX11_tapeNumber_32 : decode cX11_tapeNumber 32 = .ok (.putfield 83, 3) := by decide +kernel
theorem dX11_tapeNumber_35 : decode cX11_tapeNumber 35 = .ok (.iinc 2 (-8), 3) := by decide +kernel
theorem dX11_tapeNumber_38 : decode cX11_tapeNumber 38 = .ok (.goto (-35), 3) := by decide +kernel
theorem dX11_tapeNumber_41 : decode cX11_tapeNumber 41 = .ok (.return_, 1) := by decide +kernel
theorem dX11_text_0 : decode cX11_text 0 = .ok (.iload_n 1, 1) := by decide +kernel
theorem dX11_text_1 : decode cX11_text 1 = .ok (.ifCond .lt 11, 3) := by decide +kernel
theorem dX11_text_4 : decode cX11_text 4 = .ok (.iload_n 1, 1) := by decide +kernel
theorem dX11_text_5 : decode cX11_text 5 = .ok (.aload_n 0, 1) := by decide +kernel
theorem dX11_text_6 : decode cX11_text 6 = .ok (.getfield 83, 3) := by decide +kernel
theorem dX11_text_9 : decode cX11_text 9 = .ok (.if_icmp .le 6, 3) := by decide +kernel
theorem dX11_text_12 : decode cX11_text 12 = .ok (.bipush (-2), 2) := by decide +kernel
theorem dX11_text_14 : decode cX11_text 14 = .ok (.ireturn, 1) := by decide +kernel
theorem dX11_text_15 : decode cX11_text 15 = .ok (.aload_n 0, 1) := by decide +kernel
theorem dX11_text_16 : decode cX11_text 16 = .ok (.iconst 0, 1) := by decide +kernel
theorem dX11_text_17 : decode cX11_text 17 = .ok (.putfield 83, 3) := by decide +kernel
theorem dX11_text_20 : decode cX11_text 20 = .ok (.aload_n 0, 1) := by decide +kernel
theorem dX11_text_21 : decode cX11_text 21 = .ok (.getfield 21, 3) := by decide +kernel
theorem dX11_text_24 : decode cX11_text 24 = .ok (.aload_n 0, 1) := by decide +kernel
theorem dX11_text_25 : decode cX11_text 25 = .ok (.getfield 14, 3) := by decide +kernel
theorem dX11_text_28 : decode cX11_text 28 = .ok (.iload_n 1, 1) := by decide +kernel
theorem dX11_text_29 : decode cX11_text 29 = .ok (.aload_n 0, 1) := by decide +kernel
theorem dX11_text_30 : decode cX11_text 30 = .ok (.getfield 32, 3) := by decide +kernel
theorem dX11_text_33 : decode cX11_text 33 = .ok (.invokevirtual 94, 3) := by decide +kernel
theorem dX11_text_36 : decode cX11_text 36 = .ok (.ifCond .ne 5, 3) := by decide +kernel
theorem dX11_text_39 : decode cX11_text 39 = .ok (.iconst (-1), 1) := by decide +kernel
theorem dX11_text_40 : decode cX11_text 40 = .ok (.ireturn, 1) := by decide +kernel
theorem dX11_text_41 : decode cX11_text 41 = .ok (.aload_n 0, 1) := by decide +kernel
theorem dX11_text_42 : decode cX11_text 42 = .ok (.getfield 28, 3) := by decide +kernel
theorem dX11_text_45 : decode cX11_text 45 = .ok (.astore_n 2, 1) := by decide +kernel
theorem dX11_text_46 : decode cX11_text 46 = .ok (.aload_n 0, 1) := by decide +kernel
theorem dX11_text_47 : decode cX11_text 47 = .ok (.aload_n 0, 1) := by decide +kernel
theorem dX11_text_48 : decode cX11_text 48 = .ok (.getfield 32, 3) := by decide +kernel
theorem dX11_text_51 : decode cX11_text 51 = .ok (.putfield 28, 3) := by decide +kernel
theorem dX11_text_54 : decode cX11_text 54 = .ok (.aload_n 0, 1) := by decide +kernel
theorem dX11_text_55 : decode cX11_text 55 = .ok (.aload_n 2, 1) := by decide +kernel
theorem dX11_text_56 : decode cX11_text 56 = .ok (.putfield 32, 3) := by decide +kernel
theorem dX11_text_59 : decode cX11_text 59 = .ok (.aload_n 0, 1) := by decide +kernel
theorem dX11_text_60 : decode cX11_text 60 = .ok (.getfield 38, 3) := by decide +kernel
theorem dX11_text_63 : decode cX11_text 63 = .ok (.aload_n 0, 1) := by decide +kernel
theorem dX11_text_64 : decode cX11_text 64 = .ok (.getfield 28, 3) := by decide +kernel
theorem dX11_text_67 : decode cX11_text 67 = .ok (.invokevirtual 98, 3) := by decide +kernel
theorem dX11_text_70 : decode cX11_text 70 = .ok (.aload_n 0, 1) := by decide +kernel
theorem dX11_text_71 : decode cX11_text 71 = .ok (.getfield 58, 3) := by decide +kernel
theorem dX11_text_74 : decode cX11_text 74 = .ok (.invokevirtual 102, 3) := by decide +kernel
theorem dX11_text_77 : decode cX11_text 77 = .ok (.aload_n 0, 1) := by decide +kernel
theorem dX11_text_78 : decode cX11_text 78 = .ok (.getfield 65, 3) := by decide +kernel
theorem dX11_text_81 : decode cX11_text 81 = .ok (.invokevirtual 105, 3) := by decide +kernel
theorem dX11_text_84 : decode cX11_text 84 = .ok (.aload_n 0, 1) := by decide +kernel
theorem dX11_text_85 : decode cX11_text 85 = .ok (.iconst 0, 1) := by decide +kernel
theorem dX11_text_86 : decode cX11_text 86 = .ok (.putfield 106, 3) := by decide +kernel
theorem dX11_text_89 : decode cX11_text 89 = .ok (.aload_n 0, 1) := by decide +kernel
theorem dX11_text_90 : decode cX11_text 90 = .ok (.getfield 28, 3) := by decide +kernel
theorem dX11_text_93 : decode cX11_text 93 = .ok (.getfield 110, 3) := by decide +kernel
theorem dX11_text_96 : decode cX11_text 96 = .ok (.ireturn, 1) := by decide +kernel
theorem dX11_fault_0 : decode cX11_fault 0 = .ok (.iload_n 1, 1) := by decide +kernel
theorem dX11_fault_1 : decode cX11_fault 1 = .ok (.ifCond .ne 11, 3) := by decide +kernel
theorem dX11_fault_4 : decode cX11_fault 4 = .ok (.aload_n 0, 1) := by decide +kernel
theorem dX11_fault_5 : decode cX11_fault 5 = .ok (.getfield 21, 3) := by decide +kernel
theorem dX11_fault_8 : decode cX11_fault 8 = .ok (.getfield 113, 3) := by decide +kernel
theorem dX11_fault_11 : decode cX11_fault 11 = .ok (.ireturn, 1) := by decide +kernel
theorem dX11_fault_12 : decode cX11_fault 12 = .ok (.iload_n 1, 1) := by decide +kernel
theorem dX11_fault_13 : decode cX11_fault 13 = .ok (.iconst 1, 1) := by decide +kernel
theorem dX11_fault_14 : decode cX11_fault 14 = .ok (.if_icmp .ne 23, 3) := by decide +kernel
theorem dX11_fault_17 : decode cX11_fault 17 = .ok (.aload_n 0, 1) := by decide +kernel
theorem dX11_fault_18 : decode cX11_fault 18 = .ok (.getfield 21, 3) := by decide +kernel
theorem dX11_fault_21 : decode cX11_fault 21 = .ok (.getfield 113, 3) := by decide +kernel
theorem dX11_fault_24 : decode cX11_fault 24 = .ok (.ifCond .eq 13, 3) := by decide +kernel
theorem dX11_fault_27 : decode cX11_fault 27 = .ok (.aload_n 0, 1) := by decide +kernel
theorem dX11_fault_28 : decode cX11_fault 28 = .ok (.getfield 21, 3) := by decide +kernel
theorem dX11_fault_31 : decode cX11_fault 31 = .ok (.getfield 116, 3) := by decide +kernel
theorem dX11_fault_34 : decode cX11_fault 34 = .ok (.goto 4, 3) := by decide +kernel
theorem dX11_fault_37 : decode cX11_fault 37 = .ok (.iconst (-1), 1) := by decide +kernel
theorem dX11_fault_38 : decode cX11_fault 38 = .ok (.ireturn, 1) := by decide +kernel
theorem dX11_named_0 : decode cX11_named 0 = .ok (.iload_n 1, 1) := by decide +kernel
theorem dX11_named_1 : decode cX11_named 1 = .ok (.ifCond .ne 12, 3) := by decide +kernel
theorem dX11_named_4 : decode cX11_named 4 = .ok (.aload_n 0, 1) := by decide +kernel
theorem dX11_named_5 : decode cX11_named 5 = .ok (.getfield 28, 3) := by decide +kernel
theorem dX11_named_8 : decode cX11_named 8 = .ok (.iload_n 2, 1) := by decide +kernel
theorem dX11_named_9 : decode cX11_named 9 = .ok (.invokevirtual 119, 3) := by decide +kernel
theorem dX11_named_12 : decode cX11_named 12 = .ok (.ireturn, 1) := by decide +kernel
theorem dX11_named_13 : decode cX11_named 13 = .ok (.iload_n 1, 1) := by decide +kernel
theorem dX11_named_14 : decode cX11_named 14 = .ok (.iconst 1, 1) := by decide +kernel
theorem dX11_named_15 : decode cX11_named 15 = .ok (.if_icmp .ne 14, 3) := by decide +kernel
theorem dX11_named_18 : decode cX11_named 18 = .ok (.aload_n 0, 1) := by decide +kernel
theorem dX11_named_19 : decode cX11_named 19 = .ok (.getfield 28, 3) := by decide +kernel
theorem dX11_named_22 : decode cX11_named 22 = .ok (.iload_n 2, 1) := by decide +kernel
theorem dX11_named_23 : decode cX11_named 23 = .ok (.invokevirtual 123, 3) := by decide +kernel
theorem dX11_named_26 : decode cX11_named 26 = .ok (.goto 4, 3) := by decide +kernel
theorem dX11_named_29 : decode cX11_named 29 = .ok (.iconst (-1), 1) := by decide +kernel
theorem dX11_named_30 : decode cX11_named 30 = .ok (.ireturn, 1) := by decide +kernel
theorem dX11_trade_0 : decode cX11_trade 0 = .ok (.aload_n 0, 1) := by decide +kernel
theorem dX11_trade_1 : decode cX11_trade 1 = .ok (.getfield 28, 3) := by decide +kernel
theorem dX11_trade_4 : decode cX11_trade 4 = .ok (.iload_n 1, 1) := by decide +kernel
theorem dX11_trade_5 : decode cX11_trade 5 = .ok (.invokevirtual 126, 3) := by decide +kernel
theorem dX11_trade_8 : decode cX11_trade 8 = .ok (.ifCond .ne 11, 3) := by decide +kernel
theorem dX11_trade_11 : decode cX11_trade 11 = .ok (.new 130, 3) := by decide +kernel
theorem dX11_trade_14 : decode cX11_trade 14 = .ok (.dup, 1) := by decide +kernel
theorem dX11_trade_15 : decode cX11_trade 15 = .ok (.invokespecial 132, 3) := by decide +kernel
theorem dX11_trade_18 : decode cX11_trade 18 = .ok (.athrow, 1) := by decide +kernel
theorem dX11_trade_19 : decode cX11_trade 19 = .ok (.iload_n 2, 1) := by decide +kernel
theorem dX11_trade_20 : decode cX11_trade 20 = .ok (.tableswitch 93 0 4 #[36, 48, 60, 72, 84], 36) := by decide +kernel
theorem dX11_trade_56 : decode cX11_trade 56 = .ok (.aload_n 0, 1) := by decide +kernel
theorem dX11_trade_57 : decode cX11_trade 57 = .ok (.getfield 28, 3) := by decide +kernel
theorem dX11_trade_60 : decode cX11_trade 60 = .ok (.getfield 133, 3) := by decide +kernel
theorem dX11_trade_63 : decode cX11_trade 63 = .ok (.iload_n 1, 1) := by decide +kernel
theorem dX11_trade_64 : decode cX11_trade 64 = .ok (.invokevirtual 136, 3) := by decide +kernel
theorem dX11_trade_67 : decode cX11_trade 67 = .ok (.ireturn, 1) := by decide +kernel
theorem dX11_trade_68 : decode cX11_trade 68 = .ok (.aload_n 0, 1) := by decide +kernel
theorem dX11_trade_69 : decode cX11_trade 69 = .ok (.getfield 28, 3) := by decide +kernel
theorem dX11_trade_72 : decode cX11_trade 72 = .ok (.getfield 139, 3) := by decide +kernel
theorem dX11_trade_75 : decode cX11_trade 75 = .ok (.iload_n 1, 1) := by decide +kernel
theorem dX11_trade_76 : decode cX11_trade 76 = .ok (.invokevirtual 136, 3) := by decide +kernel
theorem dX11_trade_79 : decode cX11_trade 79 = .ok (.ireturn, 1) := by decide +kernel
theorem dX11_trade_80 : decode cX11_trade 80 = .ok (.aload_n 0, 1) := by decide +kernel
theorem dX11_trade_81 : decode cX11_trade 81 = .ok (.getfield 38, 3) := by decide +kernel
theorem dX11_trade_84 : decode cX11_trade 84 = .ok (.getfield 142, 3) := by decide +kernel
theorem dX11_trade_87 : decode cX11_trade 87 = .ok (.iload_n 1, 1) := by decide +kernel
theorem dX11_trade_88 : decode cX11_trade 88 = .ok (.invokevirtual 136, 3) := by decide +kernel
theorem dX11_trade_91 : decode cX11_trade 91 = .ok (.ireturn, 1) := by decide +kernel
theorem dX11_trade_92 : decode cX11_trade 92 = .ok (.aload_n 0, 1) := by decide +kernel
theorem dX11_trade_93 : decode cX11_trade 93 = .ok (.getfield 38, 3) := by decide +kernel
theorem dX11_trade_96 : decode cX11_trade 96 = .ok (.getfield 145, 3) := by decide +kernel
theorem dX11_trade_99 : decode cX11_trade 99 = .ok (.iload_n 1, 1) := by decide +kernel
theorem dX11_trade_100 : decode cX11_trade 100 = .ok (.invokevirtual 136, 3) := by decide +kernel
theorem dX11_trade_103 : decode cX11_trade 103 = .ok (.ireturn, 1) := by decide +kernel
theorem dX11_trade_104 : decode cX11_trade 104 = .ok (.aload_n 0, 1) := by decide +kernel
theorem dX11_trade_105 : decode cX11_trade 105 = .ok (.getfield 38, 3) := by decide +kernel
theorem dX11_trade_108 : decode cX11_trade 108 = .ok (.iload_n 1, 1) := by decide +kernel
theorem dX11_trade_109 : decode cX11_trade 109 = .ok (.invokevirtual 148, 3) := by decide +kernel
theorem dX11_trade_112 : decode cX11_trade 112 = .ok (.ireturn, 1) := by decide +kernel
theorem dX11_trade_113 : decode cX11_trade 113 = .ok (.new 151, 3) := by decide +kernel
theorem dX11_trade_116 : decode cX11_trade 116 = .ok (.dup, 1) := by decide +kernel
theorem dX11_trade_117 : decode cX11_trade 117 = .ok (.invokespecial 153, 3) := by decide +kernel
theorem dX11_trade_120 : decode cX11_trade 120 = .ok (.athrow, 1) := by decide +kernel
theorem dX11_place_0 : decode cX11_place 0 = .ok (.aload_n 0, 1) := by decide +kernel
theorem dX11_place_1 : decode cX11_place 1 = .ok (.getfield 38, 3) := by decide +kernel
theorem dX11_place_4 : decode cX11_place 4 = .ok (.iload_n 1, 1) := by decide +kernel
theorem dX11_place_5 : decode cX11_place 5 = .ok (.invokevirtual 154, 3) := by decide +kernel
theorem dX11_place_8 : decode cX11_place 8 = .ok (.ifCond .eq 17, 3) := by decide +kernel
theorem dX11_place_11 : decode cX11_place 11 = .ok (.aload_n 0, 1) := by decide +kernel
theorem dX11_place_12 : decode cX11_place 12 = .ok (.getfield 38, 3) := by decide +kernel
theorem dX11_place_15 : decode cX11_place 15 = .ok (.getfield 157, 3) := by decide +kernel
theorem dX11_place_18 : decode cX11_place 18 = .ok (.iload_n 1, 1) := by decide +kernel
theorem dX11_place_19 : decode cX11_place 19 = .ok (.invokevirtual 136, 3) := by decide +kernel
theorem dX11_place_22 : decode cX11_place 22 = .ok (.goto 4, 3) := by decide +kernel
theorem dX11_place_25 : decode cX11_place 25 = .ok (.iconst (-1), 1) := by decide +kernel
theorem dX11_place_26 : decode cX11_place 26 = .ok (.ireturn, 1) := by decide +kernel
theorem dX11_work_0 : decode cX11_work 0 = .ok (.aload_n 0, 1) := by decide +kernel
theorem dX11_work_1 : decode cX11_work 1 = .ok (.getfield 28, 3) := by decide +kernel
theorem dX11_work_4 : decode cX11_work 4 = .ok (.iload_n 1, 1) := by decide +kernel
theorem dX11_work_5 : decode cX11_work 5 = .ok (.invokevirtual 160, 3) := by decide +kernel
theorem dX11_work_8 : decode cX11_work 8 = .ok (.ifCond .ne 5, 3) := by decide +kernel
theorem dX11_work_11 : decode cX11_work 11 = .ok (.iconst (-1), 1) := by decide +kernel
theorem dX11_work_12 : decode cX11_work 12 = .ok (.ireturn, 1) := by decide +kernel
theorem dX11_work_13 : decode cX11_work 13 = .ok (.iload_n 2, 1) := by decide +kernel
theorem dX11_work_14 : decode cX11_work 14 = .ok (.tableswitch 78 0 3 #[30, 42, 54, 66], 30) := by decide +kernel
theorem dX11_work_44 : decode cX11_work 44 = .ok (.aload_n 0, 1) := by decide +kernel
theorem dX11_work_45 : decode cX11_work 45 = .ok (.getfield 28, 3) := by decide +kernel
theorem dX11_work_48 : decode cX11_work 48 = .ok (.getfield 163, 3) := by decide +kernel
theorem dX11_work_51 : decode cX11_work 51 = .ok (.iload_n 1, 1) := by decide +kernel
theorem dX11_work_52 : decode cX11_work 52 = .ok (.invokevirtual 136, 3) := by decide +kernel
theorem dX11_work_55 : decode cX11_work 55 = .ok (.ireturn, 1) := by decide +kernel
theorem dX11_work_56 : decode cX11_work 56 = .ok (.aload_n 0, 1) := by decide +kernel
theorem dX11_work_57 : decode cX11_work 57 = .ok (.getfield 28, 3) := by decide +kernel
theorem dX11_work_60 : decode cX11_work 60 = .ok (.getfield 166, 3) := by decide +kernel
theorem dX11_work_63 : decode cX11_work 63 = .ok (.iload_n 1, 1) := by decide +kernel
theorem dX11_work_64 : decode cX11_work 64 = .ok (.invokevirtual 136, 3) := by decide +kernel
theorem dX11_work_67 : decode cX11_work 67 = .ok (.ireturn, 1) := by decide +kernel
theorem dX11_work_68 : decode cX11_work 68 = .ok (.aload_n 0, 1) := by decide +kernel
theorem dX11_work_69 : decode cX11_work 69 = .ok (.getfield 28, 3) := by decide +kernel
theorem dX11_work_72 : decode cX11_work 72 = .ok (.getfield 169, 3) := by decide +kernel
theorem dX11_work_75 : decode cX11_work 75 = .ok (.iload_n 1, 1) := by decide +kernel
theorem dX11_work_76 : decode cX11_work 76 = .ok (.invokevirtual 136, 3) := by decide +kernel
theorem dX11_work_79 : decode cX11_work 79 = .ok (.ireturn, 1) := by decide +kernel
theorem dX11_work_80 : decode cX11_work 80 = .ok (.aload_n 0, 1) := by decide +kernel
theorem dX11_work_81 : decode cX11_work 81 = .ok (.getfield 38, 3) := by decide +kernel
theorem dX11_work_84 : decode cX11_work 84 = .ok (.getfield 172, 3) := by decide +kernel
theorem dX11_work_87 : decode cX11_work 87 = .ok (.iload_n 1, 1) := by decide +kernel
theorem dX11_work_88 : decode cX11_work 88 = .ok (.invokevirtual 136, 3) := by decide +kernel
theorem dX11_work_91 : decode cX11_work 91 = .ok (.ireturn, 1) := by decide +kernel
theorem dX11_work_92 : decode cX11_work 92 = .ok (.iconst (-1), 1) := by decide +kernel
theorem dX11_work_93 : decode cX11_work 93 = .ok (.ireturn, 1) := by decide +kernel
theorem dX11_law_0 : decode cX11_law 0 = .ok (.iload_n 1, 1) := by decide +kernel
theorem dX11_law_1 : decode cX11_law 1 = .ok (.ifCond .lt 19, 3) := by decide +kernel
theorem dX11_law_4 : decode cX11_law 4 = .ok (.iload_n 1, 1) := by decide +kernel
theorem dX11_law_5 : decode cX11_law 5 = .ok (.iconst 3, 1) := by decide +kernel
theorem dX11_law_6 : decode cX11_law 6 = .ok (.if_icmp .ge 14, 3) := by decide +kernel
theorem dX11_law_9 : decode cX11_law 9 = .ok (.aload_n 0, 1) := by decide +kernel
theorem dX11_law_10 : decode cX11_law 10 = .ok (.getfield 28, 3) := by decide +kernel
theorem dX11_law_13 : decode cX11_law 13 = .ok (.iload_n 2, 1) := by decide +kernel
theorem dX11_law_14 : decode cX11_law 14 = .ok (.invokevirtual 126, 3) := by decide +kernel
theorem dX11_law_17 : decode cX11_law 17 = .ok (.ifCond .ne 7, 3) := by decide +kernel
theorem dX11_law_20 : decode cX11_law 20 = .ok (.ldc2_w 175, 3) := by decide +kernel
theorem dX11_law_23 : decode cX11_law 23 = .ok (.lreturn, 1) := by decide +kernel
theorem dX11_law_24 : decode cX11_law 24 = .ok (.aload_n 0, 1) := by decide +kernel
theorem dX11_law_25 : decode cX11_law 25 = .ok (.getfield 51, 3) := by decide +kernel
theorem dX11_law_28 : decode cX11_law 28 = .ok (.aload_n 0, 1) := by decide +kernel
theorem dX11_law_29 : decode cX11_law 29 = .ok (.getfield 28, 3) := by decide +kernel
theorem dX11_law_32 : decode cX11_law 32 = .ok (.invokevirtual 177, 3) := by decide +kernel
theorem dX11_law_35 : decode cX11_law 35 = .ok (.aload_n 0, 1) := by decide +kernel
theorem dX11_law_36 : decode cX11_law 36 = .ok (.getfield 51, 3) := by decide +kernel
theorem dX11_law_39 : decode cX11_law 39 = .ok (.aload_n 0, 1) := by decide +kernel
theorem dX11_law_40 : decode cX11_law 40 = .ok (.getfield 38, 3) := by decide +kernel
theorem dX11_law_43 : decode cX11_law 43 = .ok (.iload_n 1, 1) := by decide +kernel
theorem dX11_law_44 : decode cX11_law 44 = .ok (.iload_n 2, 1) := by decide +kernel
theorem dX11_law_45 : decode cX11_law 45 = .ok (.invokevirtual 180, 3) := by decide +kernel
theorem dX11_law_48 : decode cX11_law 48 = .ok (.lreturn, 1) := by decide +kernel
theorem dX11_length_0 : decode cX11_length 0 = .ok (.aload_n 0, 1) := by decide +kernel
theorem dX11_length_1 : decode cX11_length 1 = .ok (.getfield 28, 3) := by decide +kernel
theorem dX11_length_4 : decode cX11_length 4 = .ok (.iload_n 1, 1) := by decide +kernel
theorem dX11_length_5 : decode cX11_length 5 = .ok (.invokevirtual 126, 3) := by decide +kernel
theorem dX11_length_8 : decode cX11_length 8 = .ok (.ifCond .ne 5, 3) := by decide +kernel
theorem dX11_length_11 : decode cX11_length 11 = .ok (.iconst (-1), 1) := by decide +kernel
theorem dX11_length_12 : decode cX11_length 12 = .ok (.ireturn, 1) := by decide +kernel
theorem dX11_length_13 : decode cX11_length 13 = .ok (.aload_n 0, 1) := by decide +kernel
theorem dX11_length_14 : decode cX11_length 14 = .ok (.getfield 51, 3) := by decide +kernel
theorem dX11_length_17 : decode cX11_length 17 = .ok (.aload_n 0, 1) := by decide +kernel
theorem dX11_length_18 : decode cX11_length 18 = .ok (.getfield 28, 3) := by decide +kernel
theorem dX11_length_21 : decode cX11_length 21 = .ok (.invokevirtual 177, 3) := by decide +kernel
theorem dX11_length_24 : decode cX11_length 24 = .ok (.aload_n 0, 1) := by decide +kernel
theorem dX11_length_25 : decode cX11_length 25 = .ok (.getfield 51, 3) := by decide +kernel
theorem dX11_length_28 : decode cX11_length 28 = .ok (.aload_n 0, 1) := by decide +kernel
theorem dX11_length_29 : decode cX11_length 29 = .ok (.getfield 38, 3) := by decide +kernel
theorem dX11_length_32 : decode cX11_length 32 = .ok (.iload_n 1, 1) := by decide +kernel
theorem dX11_length_33 : decode cX11_length 33 = .ok (.invokevirtual 184, 3) := by decide +kernel
theorem dX11_length_36 : decode cX11_length 36 = .ok (.ireturn, 1) := by decide +kernel
theorem dX11_appoint_0 : decode cX11_appoint 0 = .ok (.aload_n 0, 1) := by decide +kernel
theorem dX11_appoint_1 : decode cX11_appoint 1 = .ok (.getfield 28, 3) := by decide +kernel
theorem dX11_appoint_4 : decode cX11_appoint 4 = .ok (.iload_n 1, 1) := by decide +kernel
theorem dX11_appoint_5 : decode cX11_appoint 5 = .ok (.invokevirtual 126, 3) := by decide +kernel
theorem dX11_appoint_8 : decode cX11_appoint 8 = .ok (.ifCond .ne 5, 3) := by decide +kernel
theorem dX11_appoint_11 : decode cX11_appoint 11 = .ok (.iconst 0, 1) := by decide +kernel
theorem dX11_appoint_12 : decode cX11_appoint 12 = .ok (.ireturn, 1) := by decide +kernel
theorem dX11_appoint_13 : decode cX11_appoint 13 = .ok (.aload_n 0, 1) := by decide +kernel
theorem dX11_appoint_14 : decode cX11_appoint 14 = .ok (.getfield 65, 3) := by decide +kernel
theorem dX11_appoint_17 : decode cX11_appoint 17 = .ok (.aload_n 0, 1) := by decide +kernel
theorem dX11_appoint_18 : decode cX11_appoint 18 = .ok (.getfield 38, 3) := by decide +kernel
theorem dX11_appoint_21 : decode cX11_appoint 21 = .ok (.invokevirtual 188, 3) := by decide +kernel
theorem dX11_appoint_24 : decode cX11_appoint 24 = .ok (.aload_n 0, 1) := by decide +kernel
theorem dX11_appoint_25 : decode cX11_appoint 25 = .ok (.getfield 38, 3) := by decide +kernel
theorem dX11_appoint_28 : decode cX11_appoint 28 = .ok (.iload_n 1, 1) := by decide +kernel
theorem dX11_appoint_29 : decode cX11_appoint 29 = .ok (.putfield 192, 3) := by decide +kernel
theorem dX11_appoint_32 : decode cX11_appoint 32 = .ok (.iconst 1, 1) := by decide +kernel
theorem dX11_appoint_33 : decode cX11_appoint 33 = .ok (.ireturn, 1) := by decide +kernel
theorem dX11_put_0 : decode cX11_put 0 = .ok (.aload_n 0, 1) := by decide +kernel
theorem dX11_put_1 : decode cX11_put 1 = .ok (.getfield 38, 3) := by decide +kernel
theorem dX11_put_4 : decode cX11_put 4 = .ok (.iload_n 1, 1) := by decide +kernel
theorem dX11_put_5 : decode cX11_put 5 = .ok (.invokevirtual 154, 3) := by decide +kernel
theorem dX11_put_8 : decode cX11_put 8 = .ok (.ifCond .eq 14, 3) := by decide +kernel
theorem dX11_put_11 : decode cX11_put 11 = .ok (.aload_n 0, 1) := by decide +kernel
theorem dX11_put_12 : decode cX11_put 12 = .ok (.getfield 28, 3) := by decide +kernel
theorem dX11_put_15 : decode cX11_put 15 = .ok (.iload_n 2, 1) := by decide +kernel
theorem dX11_put_16 : decode cX11_put 16 = .ok (.invokevirtual 126, 3) := by decide +kernel
theorem dX11_put_19 : decode cX11_put 19 = .ok (.ifCond .ne 5, 3) := by decide +kernel
theorem dX11_put_22 : decode cX11_put 22 = .ok (.iconst (-1), 1) := by decide +kernel
theorem dX11_put_23 : decode cX11_put 23 = .ok (.ireturn, 1) := by decide +kernel
theorem dX11_put_24 : decode cX11_put 24 = .ok (.aload_n 0, 1) := by decide +kernel
theorem dX11_put_25 : decode cX11_put 25 = .ok (.getfield 65, 3) := by decide +kernel
theorem dX11_put_28 : decode cX11_put 28 = .ok (.aload_n 0, 1) := by decide +kernel
theorem dX11_put_29 : decode cX11_put 29 = .ok (.getfield 38, 3) := by decide +kernel
theorem dX11_put_32 : decode cX11_put 32 = .ok (.invokevirtual 188, 3) := by decide +kernel
theorem dX11_put_35 : decode cX11_put 35 = .ok (.aload_n 0, 1) := by decide +kernel
theorem dX11_put_36 : decode cX11_put 36 = .ok (.getfield 38, 3) := by decide +kernel
theorem dX11_put_39 : decode cX11_put 39 = .ok (.getfield 157, 3) := by decide +kernel
theorem dX11_put_42 : decode cX11_put 42 = .ok (.iload_n 1, 1) := by decide +kernel
theorem dX11_put_43 : decode cX11_put 43 = .ok (.invokevirtual 136, 3) := by decide +kernel
theorem dX11_put_46 : decode cX11_put 46 = .ok (.istore_n 3, 1) := by decide +kernel
theorem dX11_put_47 : decode cX11_put 47 = .ok (.aload_n 0, 1) := by decide +kernel
theorem dX11_put_48 : decode cX11_put 48 = .ok (.getfield 38, 3) := by decide +kernel
theorem dX11_put_51 : decode cX11_put 51 = .ok (.getfield 157, 3) := by decide +kernel
theorem dX11_put_54 : decode cX11_put 54 = .ok (.iload_n 1, 1) := by decide +kernel
theorem dX11_put_55 : decode cX11_put 55 = .ok (.iload_n 2, 1) := by decide +kernel
theorem dX11_put_56 : decode cX11_put 56 = .ok (.invokevirtual 90, 3) := by decide +kernel
theorem dX11_put_59 : decode cX11_put 59 = .ok (.iload_n 3, 1) := by decide +kernel
theorem dX11_put_60 : decode cX11_put 60 = .ok (.ireturn, 1) := by decide +kernel
theorem dX11_swap_0 : decode cX11_swap 0 = .ok (.aload_n 0, 1) := by decide +kernel
theorem dX11_swap_1 : decode cX11_swap 1 = .ok (.getfield 38, 3) := by decide +kernel
theorem dX11_swap_4 : decode cX11_swap 4 = .ok (.iload_n 1, 1) := by decide +kernel
theorem dX11_swap_5 : decode cX11_swap 5 = .ok (.invokevirtual 154, 3) := by decide +kernel
theorem dX11_swap_8 : decode cX11_swap 8 = .ok (.ifCond .eq 14, 3) := by decide +kernel
theorem dX11_swap_11 : decode cX11_swap 11 = .ok (.aload_n 0, 1) := by decide +kernel
theorem dX11_swap_12 : decode cX11_swap 12 = .ok (.getfield 38, 3) := by decide +kernel
theorem dX11_swap_15 : decode cX11_swap 15 = .ok (.iload_n 2, 1) := by decide +kernel
theorem dX11_swap_16 : decode cX11_swap 16 = .ok (.invokevirtual 154, 3) := by decide +kernel
theorem dX11_swap_19 : decode cX11_swap 19 = .ok (.ifCond .ne 5, 3) := by decide +kernel
theorem dX11_swap_22 : decode cX11_swap 22 = .ok (.iconst 0, 1) := by decide +kernel
theorem dX11_swap_23 : decode cX11_swap 23 = .ok (.ireturn, 1) := by decide +kernel
theorem dX11_swap_24 : decode cX11_swap 24 = .ok (.aload_n 0, 1) := by decide +kernel
theorem dX11_swap_25 : decode cX11_swap 25 = .ok (.getfield 38, 3) := by decide +kernel
theorem dX11_swap_28 : decode cX11_swap 28 = .ok (.getfield 157, 3) := by decide +kernel
theorem dX11_swap_31 : decode cX11_swap 31 = .ok (.iload_n 1, 1) := by decide +kernel
theorem dX11_swap_32 : decode cX11_swap 32 = .ok (.invokevirtual 136, 3) := by decide +kernel
theorem dX11_swap_35 : decode cX11_swap 35 = .ok (.istore_n 3, 1) := by decide +kernel
theorem dX11_swap_36 : decode cX11_swap 36 = .ok (.aload_n 0, 1) := by decide +kernel
theorem dX11_swap_37 : decode cX11_swap 37 = .ok (.getfield 38, 3) := by decide +kernel
theorem dX11_swap_40 : decode cX11_swap 40 = .ok (.getfield 157, 3) := by decide +kernel
theorem dX11_swap_43 : decode cX11_swap 43 = .ok (.iload_n 2, 1) := by decide +kernel
theorem dX11_swap_44 : decode cX11_swap 44 = .ok (.invokevirtual 136, 3) := by decide +kernel
theorem dX11_swap_47 : decode cX11_swap 47 = .ok (.istore 4, 2) := by decide +kernel
theorem dX11_swap_49 : decode cX11_swap 49 = .ok (.iload_n 3, 1) := by decide +kernel
theorem dX11_swap_50 : decode cX11_swap 50 = .ok (.iload 4, 2) := by decide +kernel
theorem dX11_swap_52 : decode cX11_swap 52 = .ok (.if_icmp .ne 5, 3) := by decide +kernel
theorem dX11_swap_55 : decode cX11_swap 55 = .ok (.iconst 0, 1) := by decide +kernel
theorem dX11_swap_56 : decode cX11_swap 56 = .ok (.ireturn, 1) := by decide +kernel
theorem dX11_swap_57 : decode cX11_swap 57 = .ok (.aload_n 0, 1) := by decide +kernel
theorem dX11_swap_58 : decode cX11_swap 58 = .ok (.getfield 65, 3) := by decide +kernel
theorem dX11_swap_61 : decode cX11_swap 61 = .ok (.aload_n 0, 1) := by decide +kernel
theorem dX11_swap_62 : decode cX11_swap 62 = .ok (.getfield 38, 3) := by decide +kernel
theorem dX11_swap_65 : decode cX11_swap 65 = .ok (.invokevirtual 188, 3) := by decide +kernel
theorem dX11_swap_68 : decode cX11_swap 68 = .ok (.aload_n 0, 1) := by decide +kernel
theorem dX11_swap_69 : decode cX11_swap 69 = .ok (.getfield 38, 3) := by decide +kernel
theorem dX11_swap_72 : decode cX11_swap 72 = .ok (.getfield 157, 3) := by decide +kernel
theorem dX11_swap_75 : decode cX11_swap 75 = .ok (.iload_n 1, 1) := by decide +kernel
theorem dX11_swap_76 : decode cX11_swap 76 = .ok (.iload 4, 2) := by decide +kernel
theorem dX11_swap_78 : decode cX11_swap 78 = .ok (.invokevirtual 90, 3) := by decide +kernel
theorem dX11_swap_81 : decode cX11_swap 81 = .ok (.aload_n 0, 1) := by decide +kernel
theorem dX11_swap_82 : decode cX11_swap 82 = .ok (.getfield 38, 3) := by decide +kernel
theorem dX11_swap_85 : decode cX11_swap 85 = .ok (.getfield 157, 3) := by decide +kernel
theorem dX11_swap_88 : decode cX11_swap 88 = .ok (.iload_n 2, 1) := by decide +kernel
theorem dX11_swap_89 : decode cX11_swap 89 = .ok (.iload_n 3, 1) := by decide +kernel
theorem dX11_swap_90 : decode cX11_swap 90 = .ok (.invokevirtual 90, 3) := by decide +kernel
theorem dX11_swap_93 : decode cX11_swap 93 = .ok (.iconst 1, 1) := by decide +kernel
theorem dX11_swap_94 : decode cX11_swap 94 = .ok (.ireturn, 1) := by decide +kernel
theorem dX11_go_0 : decode cX11_go 0 = .ok (.iload_n 1, 1) := by decide +kernel
theorem dX11_go_1 : decode cX11_go 1 = .ok (.invokestatic 195, 3) := by decide +kernel
theorem dX11_go_4 : decode cX11_go 4 = .ok (.ifCond .eq 18, 3) := by decide +kernel
theorem dX11_go_7 : decode cX11_go 7 = .ok (.aload_n 0, 1) := by decide +kernel
theorem dX11_go_8 : decode cX11_go 8 = .ok (.getfield 38, 3) := by decide +kernel
theorem dX11_go_11 : decode cX11_go 11 = .ok (.getfield 198, 3) := by decide +kernel
theorem dX11_go_14 : decode cX11_go 14 = .ok (.iload_n 1, 1) := by decide +kernel
theorem dX11_go_15 : decode cX11_go 15 = .ok (.iadd, 1) := by decide +kernel
theorem dX11_go_16 : decode cX11_go 16 = .ok (.sipush 9800, 3) := by decide +kernel
theorem dX11_go_19 : decode cX11_go 19 = .ok (.if_icmp .le 5, 3) := by decide +kernel
theorem dX11_go_22 : decode cX11_go 22 = .ok (.iconst (-1), 1) := by decide +kernel
theorem dX11_go_23 : decode cX11_go 23 = .ok (.ireturn, 1) := by decide +kernel
theorem dX11_go_24 : decode cX11_go 24 = .ok (.aload_n 0, 1) := by decide +kernel
theorem dX11_go_25 : decode cX11_go 25 = .ok (.getfield 51, 3) := by decide +kernel
theorem dX11_go_28 : decode cX11_go 28 = .ok (.aload_n 0, 1) := by decide +kernel
theorem dX11_go_29 : decode cX11_go 29 = .ok (.getfield 28, 3) := by decide +kernel
theorem dX11_go_32 : decode cX11_go 32 = .ok (.invokevirtual 177, 3) := by decide +kernel
theorem dX11_go_35 : decode cX11_go 35 = .ok (.aload_n 0, 1) := by decide +kernel
theorem dX11_go_36 : decode cX11_go 36 = .ok (.getfield 51, 3) := by decide +kernel
theorem dX11_go_39 : decode cX11_go 39 = .ok (.iconst 1, 1) := by decide +kernel
theorem dX11_go_40 : decode cX11_go 40 = .ok (.putfield 201, 3) := by decide +kernel
theorem dX11_go_43 : decode cX11_go 43 = .ok (.aload_n 0, 1) := by decide +kernel
theorem dX11_go_44 : decode cX11_go 44 = .ok (.getfield 51, 3) := by decide +kernel
theorem dX11_go_47 : decode cX11_go 47 = .ok (.aload_n 0, 1) := by decide +kernel
theorem dX11_go_48 : decode cX11_go 48 = .ok (.getfield 38, 3) := by decide +kernel
theorem dX11_go_51 : decode cX11_go 51 = .ok (.iload_n 1, 1) := by decide +kernel
theorem dX11_go_52 : decode cX11_go 52 = .ok (.invokevirtual 204, 3) := by decide +kernel
theorem dX11_go_55 : decode cX11_go 55 = .ok (.iload_n 1, 1) := by decide +kernel
theorem dX11_go_56 : decode cX11_go 56 = .ok (.ifCond .le 10, 3) := by decide +kernel
theorem dX11_go_59 : decode cX11_go 59 = .ok (.aload_n 0, 1) := by decide +kernel
theorem dX11_go_60 : decode cX11_go 60 = .ok (.getfield 65, 3) := by decide +kernel
theorem dX11_go_63 : decode cX11_go 63 = .ok (.invokevirtual 105, 3) := by decide +kernel
theorem dX11_go_66 : decode cX11_go 66 = .ok (.aload_n 0, 1) := by decide +kernel
theorem dX11_go_67 : decode cX11_go 67 = .ok (.getfield 38, 3) := by decide +kernel
theorem dX11_go_70 : decode cX11_go 70 = .ok (.getfield 198, 3) := by decide +kernel
theorem dX11_go_73 : decode cX11_go 73 = .ok (.ireturn, 1) := by decide +kernel
theorem dX11_isDays_0 : decode cX11_isDays 0 = .ok (.iload_n 0, 1) := by decide +kernel
theorem dX11_isDays_1 : decode cX11_isDays 1 = .ok (.ifCond .lt 14, 3) := by decide +kernel
theorem dX11_isDays_4 : decode cX11_isDays 4 = .ok (.iload_n 0, 1) := by decide +kernel
theorem dX11_isDays_5 : decode cX11_isDays 5 = .ok (.sipush 200, 3) := by decide +kernel
theorem dX11_isDays_8 : decode cX11_isDays 8 = .ok (.if_icmp .gt 7, 3) := by decide +kernel
theorem dX11_isDays_11 : decode cX11_isDays 11 = .ok (.iconst 1, 1) := by decide +kernel
theorem dX11_isDays_12 : decode cX11_isDays 12 = .ok (.goto 4, 3) := by decide +kernel
theorem dX11_isDays_15 : decode cX11_isDays 15 = .ok (.iconst 0, 1) := by decide +kernel
theorem dX11_isDays_16 : decode cX11_isDays 16 = .ok (.ireturn, 1) := by decide +kernel
theorem dX11_tryDays_0 : decode cX11_tryDays 0 = .ok (.aload_n 0, 1) := by decide +kernel
theorem dX11_tryDays_1 : decode cX11_tryDays 1 = .ok (.getfield 51, 3) := by decide +kernel
theorem dX11_tryDays_4 : decode cX11_tryDays 4 = .ok (.aload_n 0, 1) := by decide +kernel
theorem dX11_tryDays_5 : decode cX11_tryDays 5 = .ok (.getfield 28, 3) := by decide +kernel
theorem dX11_tryDays_8 : decode cX11_tryDays 8 = .ok (.invokevirtual 177, 3) := by decide +kernel
theorem dX11_tryDays_11 : decode cX11_tryDays 11 = .ok (.aload_n 0, 1) := by decide +kernel
theorem dX11_tryDays_12 : decode cX11_tryDays 12 = .ok (.getfield 42, 3) := by decide +kernel
theorem dX11_tryDays_15 : decode cX11_tryDays 15 = .ok (.aload_n 0, 1) := by decide +kernel
theorem dX11_tryDays_16 : decode cX11_tryDays 16 = .ok (.getfield 38, 3) := by decide +kernel
theorem dX11_tryDays_19 : decode cX11_tryDays 19 = .ok (.invokevirtual 208, 3) := by decide +kernel
theorem dX11_tryDays_22 : decode cX11_tryDays 22 = .ok (.iconst 0, 1) := by decide +kernel
theorem dX11_tryDays_23 : decode cX11_tryDays 23 = .ok (.istore_n 2, 1) := by decide +kernel
theorem dX11_tryDays_24 : decode cX11_tryDays 24 = .ok (.iload_n 2, 1) := by decide +kernel
theorem dX11_tryDays_25 : decode cX11_tryDays 25 = .ok (.iload_n 1, 1) := by decide +kernel
theorem dX11_tryDays_26 : decode cX11_tryDays 26 = .ok (.if_icmp .ge 20, 3) := by decide +kernel
theorem dX11_tryDays_29 : decode cX11_tryDays 29 = .ok (.aload_n 0, 1) := by decide +kernel
theorem dX11_tryDays_30 : decode cX11_tryDays 30 = .ok (.getfield 51, 3) := by decide +kernel
theorem dX11_tryDays_33 : decode cX11_tryDays 33 = .ok (.aload_n 0, 1) := by decide +kernel
theorem dX11_tryDays_34 : decode cX11_tryDays 34 = .ok (.getfield 42, 3) := by decide +kernel
theorem dX11_tryDays_37 : decode cX11_tryDays 37 = .ok (.invokevirtual 211, 3) := by decide +kernel
theorem dX11_tryDays_40 : decode cX11_tryDays 40 = .ok (.iinc 2 1, 3) := by decide +kernel
theorem dX11_tryDays_43 : decode cX11_tryDays 43 = .ok (.goto (-19), 3) := by decide +kernel
theorem dX11_tryDays_46 : decode cX11_tryDays 46 = .ok (.return_, 1) := by decide +kernel
theorem dX11_ahead_0 : decode cX11_ahead 0 = .ok (.iload_n 1, 1) := by decide +kernel
theorem dX11_ahead_1 : decode cX11_ahead 1 = .ok (.invokestatic 195, 3) := by decide +kernel
theorem dX11_ahead_4 : decode cX11_ahead 4 = .ok (.ifCond .eq 28, 3) := by decide +kernel
theorem dX11_ahead_7 : decode cX11_ahead 7 = .ok (.iload_n 2, 1) := by decide +kernel
theorem dX11_ahead_8 : decode cX11_ahead 8 = .ok (.ifCond .lt 24, 3) := by decide +kernel
theorem dX11_ahead_11 : decode cX11_ahead 11 = .ok (.iload_n 2, 1) := by decide +kernel
theorem dX11_ahead_12 : decode cX11_ahead 12 = .ok (.iconst 4, 1) := by decide +kernel
theorem dX11_ahead_13 : decode cX11_ahead 13 = .ok (.if_icmp .gt 19, 3) := by decide +kernel
theorem dX11_ahead_16 : decode cX11_ahead 16 = .ok (.iload_n 2, 1) := by decide +kernel
theorem dX11_ahead_17 : decode cX11_ahead 17 = .ok (.iconst 1, 1) := by decide +kernel
theorem dX11_ahead_18 : decode cX11_ahead 18 = .ok (.if_icmp .ne 16, 3) := by decide +kernel
theorem dX11_ahead_21 : decode cX11_ahead 21 = .ok (.aload_n 0, 1) := by decide +kernel
theorem dX11_ahead_22 : decode cX11_ahead 22 = .ok (.getfield 28, 3) := by decide +kernel
theorem dX11_ahead_25 : decode cX11_ahead 25 = .ok (.iload_n 3, 1) := by decide +kernel
theorem dX11_ahead_26 : decode cX11_ahead 26 = .ok (.invokevirtual 126, 3) := by decide +kernel
theorem dX11_ahead_29 : decode cX11_ahead 29 = .ok (.ifCond .ne 5, 3) := by decide +kernel
theorem dX11_ahead_32 : decode cX11_ahead 32 = .ok (.iconst (-1), 1) := by decide +kernel
theorem dX11_ahead_33 : decode cX11_ahead 33 = .ok (.ireturn, 1) := by decide +kernel
theorem dX11_ahead_34 : decode cX11_ahead 34 = .ok (.aload_n 0, 1) := by decide +kernel
theorem dX11_ahead_35 : decode cX11_ahead 35 = .ok (.iload_n 1, 1) := by decide +kernel
theorem dX11_ahead_36 : decode cX11_ahead 36 = .ok (.invokevirtual 214, 3) := by decide +kernel
theorem dX11_ahead_39 : decode cX11_ahead 39 = .ok (.iload_n 2, 1) := by decide +kernel
theorem dX11_ahead_40 : decode cX11_ahead 40 = .ok (.tableswitch 92 0 3 #[32, 48, 60, 76], 32) := by decide +kernel
theorem dX11_ahead_72 : decode cX11_ahead 72 = .ok (.aload_n 0, 1) := by decide +kernel
theorem dX11_ahead_73 : decode cX11_ahead 73 = .ok (.getfield 28, 3) := by decide +kernel
theorem dX11_ahead_76 : decode cX11_ahead 76 = .ok (.getfield 217, 3) := by decide +kernel
theorem dX11_ahead_79 : decode cX11_ahead 79 = .ok (.aload_n 0, 1) := by decide +kernel
theorem dX11_ahead_80 : decode cX11_ahead 80 = .ok (.getfield 42, 3) := by decide +kernel
theorem dX11_ahead_83 : decode cX11_ahead 83 = .ok (.getfield 220, 3) := by decide +kernel
theorem dX11_ahead_86 : decode cX11_ahead 86 = .ok (.isub, 1) := by decide +kernel
theorem dX11_ahead_87 : decode cX11_ahead 87 = .ok (.ireturn, 1) := by decide +kernel
theorem dX11_ahead_88 : decode cX11_ahead 88 = .ok (.aload_n 0, 1) := by decide +kernel
theorem dX11_ahead_89 : decode cX11_ahead 89 = .ok (.getfield 42, 3) := by decide +kernel
theorem dX11_ahead_92 : decode cX11_ahead 92 = .ok (.getfield 142, 3) := by decide +kernel
theorem dX11_ahead_95 : decode cX11_ahead 95 = .ok (.iload_n 3, 1) := by decide +kernel
theorem dX11_ahead_96 : decode cX11_ahead 96 = .ok (.invokevirtual 136, 3) := by decide +kernel
theorem dX11_ahead_99 : decode cX11_ahead 99 = .ok (.ireturn, 1) := by decide +kernel
theorem dX11_ahead_100 : decode cX11_ahead 100 = .ok (.aload_n 0, 1) := by decide +kernel
theorem dX11_ahead_101 : decode cX11_ahead 101 = .ok (.getfield 42, 3) := by decide +kernel
theorem dX11_ahead_104 : decode cX11_ahead 104 = .ok (.getfield 223, 3) := by decide +kernel
theorem dX11_ahead_107 : decode cX11_ahead 107 = .ok (.aload_n 0, 1) := by decide +kernel
theorem dX11_ahead_108 : decode cX11_ahead 108 = .ok (.getfield 38, 3) := by decide +kernel
theorem dX11_ahead_111 : decode cX11_ahead 111 = .ok (.getfield 223, 3) := by decide +kernel
theorem dX11_ahead_114 : decode cX11_ahead 114 = .ok (.isub, 1) := by decide +kernel
theorem dX11_ahead_115 : decode cX11_ahead 115 = .ok (.ireturn, 1) := by decide +kernel
theorem dX11_ahead_116 : decode cX11_ahead 116 = .ok (.aload_n 0, 1) := by decide +kernel
theorem dX11_ahead_117 : decode cX11_ahead 117 = .ok (.getfield 42, 3) := by decide +kernel
theorem dX11_ahead_120 : decode cX11_ahead 120 = .ok (.getfield 226, 3) := by decide +kernel
theorem dX11_ahead_123 : decode cX11_ahead 123 = .ok (.aload_n 0, 1) := by decide +kernel
theorem dX11_ahead_124 : decode cX11_ahead 124 = .ok (.getfield 38, 3) := by decide +kernel
theorem dX11_ahead_127 : decode cX11_ahead 127 = .ok (.getfield 226, 3) := by decide +kernel
theorem dX11_ahead_130 : decode cX11_ahead 130 = .ok (.isub, 1) := by decide +kernel
theorem dX11_ahead_131 : decode cX11_ahead 131 = .ok (.ireturn, 1) := by decide +kernel
theorem dX11_ahead_132 : decode cX11_ahead 132 = .ok (.aload_n 0, 1) := by decide +kernel
theorem dX11_ahead_133 : decode cX11_ahead 133 = .ok (.getfield 42, 3) := by decide +kernel
theorem dX11_ahead_136 : decode cX11_ahead 136 = .ok (.getfield 229, 3) := by decide +kernel
theorem dX11_ahead_139 : decode cX11_ahead 139 = .ok (.aload_n 0, 1) := by decide +kernel
theorem dX11_ahead_140 : decode cX11_ahead 140 = .ok (.getfield 38, 3) := by decide +kernel
theorem dX11_ahead_143 : decode cX11_ahead 143 = .ok (.getfield 229, 3) := by decide +kernel
theorem dX11_ahead_146 : decode cX11_ahead 146 = .ok (.isub, 1) := by decide +kernel
theorem dX11_ahead_147 : decode cX11_ahead 147 = .ok (.ireturn, 1) := by decide +kernel
theorem dX11_opener_0 : decode cX11_opener 0 = .ok (.iload_n 1, 1) := by decide +kernel
theorem dX11_opener_1 : decode cX11_opener 1 = .ok (.invokestatic 195, 3) := by decide +kernel
theorem dX11_opener_4 : decode cX11_opener 4 = .ok (.ifCond .ne 5, 3) := by decide +kernel
theorem dX11_opener_7 : decode cX11_opener 7 = .ok (.iconst (-1), 1) := by decide +kernel
theorem dX11_opener_8 : decode cX11_opener 8 = .ok (.ireturn, 1) := by decide +kernel
theorem dX11_opener_9 : decode cX11_opener 9 = .ok (.aload_n 0, 1) := by decide +kernel
theorem dX11_opener_10 : decode cX11_opener 10 = .ok (.iload_n 1, 1) := by decide +kernel
theorem dX11_opener_11 : decode cX11_opener 11 = .ok (.iconst 1, 1) := by decide +kernel
theorem dX11_opener_12 : decode cX11_opener 12 = .ok (.iadd, 1) := by decide +kernel
theorem dX11_opener_13 : decode cX11_opener 13 = .ok (.invokevirtual 214, 3) := by decide +kernel
theorem dX11_opener_16 : decode cX11_opener 16 = .ok (.aload_n 0, 1) := by decide +kernel
theorem dX11_opener_17 : decode cX11_opener 17 = .ok (.getfield 42, 3) := by decide +kernel
theorem dX11_opener_20 : decode cX11_opener 20 = .ok (.getfield 232, 3) := by decide +kernel
theorem dX11_opener_23 : decode cX11_opener 23 = .ok (.iconst (-1), 1) := by decide +kernel
theorem dX11_opener_24 : decode cX11_opener 24 = .ok (.if_icmp .ne 8, 3) := by decide +kernel
theorem dX11_opener_27 : decode cX11_opener 27 = .ok (.bipush (-2), 2) := by decide +kernel
theorem dX11_opener_29 : decode cX11_opener 29 = .ok (.goto 10, 3) := by decide +kernel
theorem dX11_opener_32 : decode cX11_opener 32 = .ok (.aload_n 0, 1) := by decide +kernel
theorem dX11_opener_33 : decode cX11_opener 33 = .ok (.getfield 42, 3) := by decide +kernel
theorem dX11_opener_36 : decode cX11_opener 36 = .ok (.getfield 232, 3) := by decide +kernel
theorem dX11_opener_39 : decode cX11_opener 39 = .ok (.ireturn, 1) := by decide +kernel
theorem dX11_longAt_0 : decode cX11_longAt 0 = .ok (.iload_n 1, 1) := by decide +kernel
theorem dX11_longAt_1 : decode cX11_longAt 1 = .ok (.invokestatic 195, 3) := by decide +kernel
theorem dX11_longAt_4 : decode cX11_longAt 4 = .ok (.ifCond .ne 5, 3) := by decide +kernel
theorem dX11_longAt_7 : decode cX11_longAt 7 = .ok (.iconst (-1), 1) := by decide +kernel
theorem dX11_longAt_8 : decode cX11_longAt 8 = .ok (.ireturn, 1) := by decide +kernel
theorem dX11_longAt_9 : decode cX11_longAt 9 = .ok (.aload_n 0, 1) := by decide +kernel
theorem dX11_longAt_10 : decode cX11_longAt 10 = .ok (.iload_n 1, 1) := by decide +kernel
theorem dX11_longAt_11 : decode cX11_longAt 11 = .ok (.iconst 1, 1) := by decide +kernel
theorem dX11_longAt_12 : decode cX11_longAt 12 = .ok (.iadd, 1) := by decide +kernel
theorem dX11_longAt_13 : decode cX11_longAt 13 = .ok (.invokevirtual 214, 3) := by decide +kernel
theorem dX11_longAt_16 : decode cX11_longAt 16 = .ok (.aload_n 0, 1) := by decide +kernel
theorem dX11_longAt_17 : decode cX11_longAt 17 = .ok (.getfield 42, 3) := by decide +kernel
theorem dX11_longAt_20 : decode cX11_longAt 20 = .ok (.getfield 232, 3) := by decide +kernel
theorem dX11_longAt_23 : decode cX11_longAt 23 = .ok (.iconst (-1), 1) := by decide +kernel
theorem dX11_longAt_24 : decode cX11_longAt 24 = .ok (.if_icmp .ne 8, 3) := by decide +kernel
theorem dX11_longAt_27 : decode cX11_longAt 27 = .ok (.bipush (-2), 2) := by decide +kernel
theorem dX11_longAt_29 : decode cX11_longAt 29 = .ok (.goto 10, 3) := by decide +kernel
theorem dX11_longAt_32 : decode cX11_longAt 32 = .ok (.aload_n 0, 1) := by decide +kernel
theorem dX11_longAt_33 : decode cX11_longAt 33 = .ok (.getfield 42, 3) := by decide +kernel
theorem dX11_longAt_36 : decode cX11_longAt 36 = .ok (.getfield 235, 3) := by decide +kernel
theorem dX11_longAt_39 : decode cX11_longAt 39 = .ok (.ireturn, 1) := by decide +kernel
theorem dX11_doneWhen_0 : decode cX11_doneWhen 0 = .ok (.aload_n 0, 1) := by decide +kernel
theorem dX11_doneWhen_1 : decode cX11_doneWhen 1 = .ok (.getfield 28, 3) := by decide +kernel
theorem dX11_doneWhen_4 : decode cX11_doneWhen 4 = .ok (.iload_n 1, 1) := by decide +kernel
theorem dX11_doneWhen_5 : decode cX11_doneWhen 5 = .ok (.invokevirtual 160, 3) := by decide +kernel
theorem dX11_doneWhen_8 : decode cX11_doneWhen 8 = .ok (.ifCond .ne 5, 3) := by decide +kernel
theorem dX11_doneWhen_11 : decode cX11_doneWhen 11 = .ok (.iconst (-1), 1) := by decide +kernel
theorem dX11_doneWhen_12 : decode cX11_doneWhen 12 = .ok (.ireturn, 1) := by decide +kernel
theorem dX11_doneWhen_13 : decode cX11_doneWhen 13 = .ok (.aload_n 0, 1) := by decide +kernel
theorem dX11_doneWhen_14 : decode cX11_doneWhen 14 = .ok (.iconst 0, 1) := by decide +kernel
theorem dX11_doneWhen_15 : decode cX11_doneWhen 15 = .ok (.invokevirtual 214, 3) := by decide +kernel
theorem dX11_doneWhen_18 : decode cX11_doneWhen 18 = .ok (.iconst 0, 1) := by decide +kernel
theorem dX11_doneWhen_19 : decode cX11_doneWhen 19 = .ok (.istore_n 2, 1) := by decide +kernel
theorem dX11_doneWhen_20 : decode cX11_doneWhen 20 = .ok (.iload_n 2, 1) := by decide +kernel
theorem dX11_doneWhen_21 : decode cX11_doneWhen 21 = .ok (.sipush 200, 3) := by decide +kernel
theorem dX11_doneWhen_24 : decode cX11_doneWhen 24 = .ok (.if_icmp .ge 47, 3) := by decide +kernel
theorem dX11_doneWhen_27 : decode cX11_doneWhen 27 = .ok (.aload_n 0, 1) := by decide +kernel
theorem dX11_doneWhen_28 : decode cX11_doneWhen 28 = .ok (.getfield 42, 3) := by decide +kernel
theorem dX11_doneWhen_31 : decode cX11_doneWhen 31 = .ok (.getfield 172, 3) := by decide +kernel
theorem dX11_doneWhen_34 : decode cX11_doneWhen 34 = .ok (.iload_n 1, 1) := by decide +kernel
theorem dX11_doneWhen_35 : decode cX11_doneWhen 35 = .ok (.invokevirtual 136, 3) := by decide +kernel
theorem dX11_doneWhen_38 : decode cX11_doneWhen 38 = .ok (.aload_n 0, 1) := by decide +kernel
theorem dX11_doneWhen_39 : decode cX11_doneWhen 39 = .ok (.getfield 28, 3) := by decide +kernel
theorem dX11_doneWhen_42 : decode cX11_doneWhen 42 = .ok (.getfield 169, 3) := by decide +kernel
theorem dX11_doneWhen_45 : decode cX11_doneWhen 45 = .ok (.iload_n 1, 1) := by decide +kernel
theorem dX11_doneWhen_46 : decode cX11_doneWhen 46 = .ok (.invokevirtual 136, 3) := by decide +kernel
theorem dX11_doneWhen_49 : decode cX11_doneWhen 49 = .ok (.if_icmp .lt 5, 3) := by decide +kernel
theorem dX11_doneWhen_52 : decode cX11_doneWhen 52 = .ok (.iload_n 2, 1) := by decide +kernel
theorem dX11_doneWhen_53 : decode cX11_doneWhen 53 = .ok (.ireturn, 1) := by decide +kernel
theorem dX11_doneWhen_54 : decode cX11_doneWhen 54 = .ok (.aload_n 0, 1) := by decide +kernel
theorem dX11_doneWhen_55 : decode cX11_doneWhen 55 = .ok (.getfield 51, 3) := by decide +kernel
theorem dX11_doneWhen_58 : decode cX11_doneWhen 58 = .ok (.aload_n 0, 1) := by decide +kernel
theorem dX11_doneWhen_59 : decode cX11_doneWhen 59 = .ok (.getfield 42, 3) := by decide +kernel
theorem dX11_doneWhen_62 : decode cX11_doneWhen 62 = .ok (.invokevirtual 211, 3) := by decide +kernel
theorem dX11_doneWhen_65 : decode cX11_doneWhen 65 = .ok (.iinc 2 1, 3) := by decide +kernel
theorem dX11_doneWhen_68 : decode cX11_doneWhen 68 = .ok (.goto (-48), 3) := by decide +kernel
theorem dX11_doneWhen_71 : decode cX11_doneWhen 71 = .ok (.bipush (-2), 2) := by decide +kernel
theorem dX11_doneWhen_73 : decode cX11_doneWhen 73 = .ok (.ireturn, 1) := by decide +kernel
theorem dX11_soon_0 : decode cX11_soon 0 = .ok (.aload_n 0, 1) := by decide +kernel
theorem dX11_soon_1 : decode cX11_soon 1 = .ok (.getfield 28, 3) := by decide +kernel
theorem dX11_soon_4 : decode cX11_soon 4 = .ok (.iload_n 1, 1) := by decide +kernel
theorem dX11_soon_5 : decode cX11_soon 5 = .ok (.invokevirtual 126, 3) := by decide +kernel
theorem dX11_soon_8 : decode cX11_soon 8 = .ok (.ifCond .ne 5, 3) := by decide +kernel
theorem dX11_soon_11 : decode cX11_soon 11 = .ok (.iconst (-1), 1) := by decide +kernel
theorem dX11_soon_12 : decode cX11_soon 12 = .ok (.ireturn, 1) := by decide +kernel
theorem dX11_soon_13 : decode cX11_soon 13 = .ok (.aload_n 0, 1) := by decide +kernel
theorem dX11_soon_14 : decode cX11_soon 14 = .ok (.iconst 0, 1) := by decide +kernel
theorem dX11_soon_15 : decode cX11_soon 15 = .ok (.invokevirtual 214, 3) := by decide +kernel
theorem dX11_soon_18 : decode cX11_soon 18 = .ok (.iconst 1, 1) := by decide +kernel
theorem dX11_soon_19 : decode cX11_soon 19 = .ok (.istore_n 2, 1) := by decide +kernel
theorem dX11_soon_20 : decode cX11_soon 20 = .ok (.iload_n 2, 1) := by decide +kernel
theorem dX11_soon_21 : decode cX11_soon 21 = .ok (.sipush 200, 3) := by decide +kernel
theorem dX11_soon_24 : decode cX11_soon 24 = .ok (.if_icmp .ge 33, 3) := by decide +kernel
theorem dX11_soon_27 : decode cX11_soon 27 = .ok (.aload_n 0, 1) := by decide +kernel
theorem dX11_soon_28 : decode cX11_soon 28 = .ok (.getfield 51, 3) := by decide +kernel
theorem dX11_soon_31 : decode cX11_soon 31 = .ok (.aload_n 0, 1) := by decide +kernel
theorem dX11_soon_32 : decode cX11_soon 32 = .ok (.getfield 42, 3) := by decide +kernel
theorem dX11_soon_35 : decode cX11_soon 35 = .ok (.invokevirtual 211, 3) := by decide +kernel
theorem dX11_soon_38 : decode cX11_soon 38 = .ok (.aload_n 0, 1) := by decide +kernel
theorem dX11_soon_39 : decode cX11_soon 39 = .ok (.getfield 42, 3) := by decide +kernel
theorem dX11_soon_42 : decode cX11_soon 42 = .ok (.getfield 232, 3) := by decide +kernel
theorem dX11_soon_45 : decode cX11_soon 45 = .ok (.iload_n 1, 1) := by decide +kernel
theorem dX11_soon_46 : decode cX11_soon 46 = .ok (.if_icmp .ne 5, 3) := by decide +kernel
theorem dX11_soon_49 : decode cX11_soon 49 = .ok (.iload_n 2, 1) := by decide +kernel
theorem dX11_soon_50 : decode cX11_soon 50 = .ok (.ireturn, 1) := by decide +kernel
theorem dX11_soon_51 : decode cX11_soon 51 = .ok (.iinc 2 1, 3) := by decide +kernel
theorem dX11_soon_54 : decode cX11_soon 54 = .ok (.goto (-34), 3) := by decide +kernel
theorem dX11_soon_57 : decode cX11_soon 57 = .ok (.bipush (-2), 2) := by decide +kernel
theorem dX11_soon_59 : decode cX11_soon 59 = .ok (.ireturn, 1) := by decide +kernel
theorem dX11_out_0 : decode cX11_out 0 = .ok (.aload_n 0, 1) := by decide +kernel
theorem dX11_out_1 : decode cX11_out 1 = .ok (.getfield 28, 3) := by decide +kernel
theorem dX11_out_4 : decode cX11_out 4 = .ok (.iload_n 1, 1) := by decide +kernel
theorem dX11_out_5 : decode cX11_out 5 = .ok (.invokevirtual 126, 3) := by decide +kernel
theorem dX11_out_8 : decode cX11_out 8 = .ok (.ifCond .ne 5, 3) := by decide +kernel
theorem dX11_out_11 : decode cX11_out 11 = .ok (.iconst (-1), 1) := by decide +kernel
theorem dX11_out_12 : decode cX11_out 12 = .ok (.ireturn, 1) := by decide +kernel
theorem dX11_out_13 : decode cX11_out 13 = .ok (.aload_n 0, 1) := by decide +kernel
theorem dX11_out_14 : decode cX11_out 14 = .ok (.iconst 0, 1) := by decide +kernel
theorem dX11_out_15 : decode cX11_out 15 = .ok (.invokevirtual 214, 3) := by decide +kernel
theorem dX11_out_18 : decode cX11_out 18 = .ok (.iconst 0, 1) := by decide +kernel
theorem dX11_out_19 : decode cX11_out 19 = .ok (.istore_n 2, 1) := by decide +kernel
theorem dX11_out_20 : decode cX11_out 20 = .ok (.iconst 0, 1) := by decide +kernel
theorem dX11_out_21 : decode cX11_out 21 = .ok (.istore_n 3, 1) := by decide +kernel
theorem dX11_out_22 : decode cX11_out 22 = .ok (.iconst 0, 1) := by decide +kernel
theorem dX11_out_23 : decode cX11_out 23 = .ok (.istore 4, 2) := by decide +kernel
theorem dX11_out_25 : decode cX11_out 25 = .ok (.iload 4, 2) := by decide +kernel
theorem dX11_out_27 : decode cX11_out 27 = .ok (.bipush 60, 2) := by decide +kernel
theorem dX11_out_29 : decode cX11_out 29 = .ok (.if_icmp .ge 45, 3) := by decide +kernel
theorem dX11_out_32 : decode cX11_out 32 = .ok (.aload_n 0, 1) := by decide +kernel
theorem dX11_out_33 : decode cX11_out 33 = .ok (.getfield 51, 3) := by decide +kernel
theorem dX11_out_36 : decode cX11_out 36 = .ok (.aload_n 0, 1) := by decide +kernel
theorem dX11_out_37 : decode cX11_out 37 = .ok (.getfield 42, 3) := by decide +kernel
theorem dX11_out_40 : decode cX11_out 40 = .ok (.invokevirtual 211, 3) := by decide +kernel
theorem dX11_out_43 : decode cX11_out 43 = .ok (.aload_n 0, 1) := by decide +kernel
theorem dX11_out_44 : decode cX11_out 44 = .ok (.getfield 42, 3) := by decide +kernel
theorem dX11_out_47 : decode cX11_out 47 = .ok (.getfield 232, 3) := by decide +kernel
theorem dX11_out_50 : decode cX11_out 50 = .ok (.iload_n 1, 1) := by decide +kernel
theorem dX11_out_51 : decode cX11_out 51 = .ok (.if_icmp .ne 7, 3) := by decide +kernel
theorem dX11_out_54 : decode cX11_out 54 = .ok (.iconst 0, 1) := by decide +kernel
theorem dX11_out_55 : decode cX11_out 55 = .ok (.goto 6, 3) := by decide +kernel
theorem dX11_out_58 : decode cX11_out 58 = .ok (.iload_n 2, 1) := by decide +kernel
theorem dX11_out_59 : decode cX11_out 59 = .ok (.iconst 1, 1) := by decide +kernel
theorem dX11_out_60 : decode cX11_out 60 = .ok (.iadd, 1) := by decide +kernel
theorem dX11_out_61 : decode cX11_out 61 = .ok (.istore_n 2, 1) := by decide +kernel
theorem dX11_out_62 : decode cX11_out 62 = .ok (.iload_n 3, 1) := by decide +kernel
theorem dX11_out_63 : decode cX11_out 63 = .ok (.iload_n 2, 1) := by decide +kernel
theorem dX11_out_64 : decode cX11_out 64 = .ok (.invokestatic 238, 3) := by decide +kernel
theorem dX11_out_67 : decode cX11_out 67 = .ok (.istore_n 3, 1) := by decide +kernel
theorem dX11_out_68 : decode cX11_out 68 = .ok (.iinc 4 1, 3) := by decide +kernel
theorem dX11_out_71 : decode cX11_out 71 = .ok (.goto (-46), 3) := by decide +kernel
theorem dX11_out_74 : decode cX11_out 74 = .ok (.iload_n 3, 1) := by decide +kernel
theorem dX11_out_75 : decode cX11_out 75 = .ok (.ireturn, 1) := by decide +kernel
theorem dX11_missing_0 : decode cX11_missing 0 = .ok (.iload_n 1, 1) := by decide +kernel
theorem dX11_missing_1 : decode cX11_missing 1 = .ok (.invokestatic 195, 3) := by decide +kernel
theorem dX11_missing_4 : decode cX11_missing 4 = .ok (.ifCond .ne 5, 3) := by decide +kernel
theorem dX11_missing_7 : decode cX11_missing 7 = .ok (.iconst (-1), 1) := by decide +kernel
theorem dX11_missing_8 : decode cX11_missing 8 = .ok (.ireturn, 1) := by decide +kernel
theorem dX11_missing_9 : decode cX11_missing 9 = .ok (.aload_n 0, 1) := by decide +kernel
theorem dX11_missing_10 : decode cX11_missing 10 = .ok (.iload_n 1, 1) := by decide +kernel
theorem dX11_missing_11 : decode cX11_missing 11 = .ok (.invokevirtual 214, 3) := by decide +kernel
theorem dX11_missing_14 : decode cX11_missing 14 = .ok (.aload_n 0, 1) := by decide +kernel
theorem dX11_missing_15 : decode cX11_missing 15 = .ok (.getfield 42, 3) := by decide +kernel
theorem dX11_missing_18 : decode cX11_missing 18 = .ok (.getfield 223, 3) := by decide +kernel
theorem dX11_missing_21 : decode cX11_missing 21 = .ok (.aload_n 0, 1) := by decide +kernel
theorem dX11_missing_22 : decode cX11_missing 22 = .ok (.getfield 38, 3) := by decide +kernel
theorem dX11_missing_25 : decode cX11_missing 25 = .ok (.getfield 223, 3) := by decide +kernel
theorem dX11_missing_28 : decode cX11_missing 28 = .ok (.isub, 1) := by decide +kernel
theorem dX11_missing_29 : decode cX11_missing 29 = .ok (.ireturn, 1) := by decide +kernel
theorem dX11_plan_0 : decode cX11_plan 0 = .ok (.iload_n 1, 1) := by decide +kernel
theorem dX11_plan_1 : decode cX11_plan 1 = .ok (.ifCond .lt 9, 3) := by decide +kernel
theorem dX11_plan_4 : decode cX11_plan 4 = .ok (.iload_n 1, 1) := by decide +kernel
theorem dX11_plan_5 : decode cX11_plan 5 = .ok (.bipush 6, 2) := by decide +kernel
theorem dX11_plan_7 : decode cX11_plan 7 = .ok (.if_icmp .le 5, 3) := by decide +kernel
theorem dX11_plan_10 : decode cX11_plan 10 = .ok (.iconst (-1), 1) := by decide +kernel
theorem dX11_plan_11 : decode cX11_plan 11 = .ok (.ireturn, 1) := by decide +kernel
theorem dX11_plan_12 : decode cX11_plan 12 = .ok (.aload_n 0, 1) := by decide +kernel
theorem dX11_plan_13 : decode cX11_plan 13 = .ok (.getfield 51, 3) := by decide +kernel
theorem dX11_plan_16 : decode cX11_plan 16 = .ok (.aload_n 0, 1) := by decide +kernel
theorem dX11_plan_17 : decode cX11_plan 17 = .ok (.getfield 28, 3) := by decide +kernel
theorem dX11_plan_20 : decode cX11_plan 20 = .ok (.invokevirtual 177, 3) := by decide +kernel
theorem dX11_plan_23 : decode cX11_plan 23 = .ok (.aload_n 0, 1) := by decide +kernel
theorem dX11_plan_24 : decode cX11_plan 24 = .ok (.getfield 79, 3) := by decide +kernel
theorem dX11_plan_27 : decode cX11_plan 27 = .ok (.aload_n 0, 1) := by decide +kernel
theorem dX11_plan_28 : decode cX11_plan 28 = .ok (.getfield 28, 3) := by decide +kernel
theorem dX11_plan_31 : decode cX11_plan 31 = .ok (.aload_n 0, 1) := by decide +kernel
theorem dX11_plan_32 : decode cX11_plan 32 = .ok (.getfield 38, 3) := by decide +kernel
theorem dX11_plan_35 : decode cX11_plan 35 = .ok (.aload_n 0, 1) := by decide +kernel
theorem dX11_plan_36 : decode cX11_plan 36 = .ok (.getfield 51, 3) := by decide +kernel
theorem dX11_plan_39 : decode cX11_plan 39 = .ok (.invokevirtual 244, 3) := by decide +kernel
theorem dX11_plan_42 : decode cX11_plan 42 = .ok (.istore_n 2, 1) := by decide +kernel
theorem dX11_plan_43 : decode cX11_plan 43 = .ok (.iload_n 2, 1) := by decide +kernel
theorem dX11_plan_44 : decode cX11_plan 44 = .ok (.bipush (-2), 2) := by decide +kernel
theorem dX11_plan_46 : decode cX11_plan 46 = .ok (.if_icmp .eq 9, 3) := by decide +kernel
theorem dX11_plan_49 : decode cX11_plan 49 = .ok (.iload_n 1, 1) := by decide +kernel
theorem dX11_plan_50 : decode cX11_plan 50 = .ok (.bipush 6, 2) := by decide +kernel
theorem dX11_plan_52 : decode cX11_plan 52 = .ok (.if_icmp .ne 5, 3) := by decide +kernel
theorem dX11_plan_55 : decode cX11_plan 55 = .ok (.iload_n 2, 1) := by decide +kernel
theorem dX11_plan_56 : decode cX11_plan 56 = .ok (.ireturn, 1) := by decide +kernel
theorem dX11_plan_57 : decode cX11_plan 57 = .ok (.aload_n 0, 1) := by decide +kernel
theorem dX11_plan_58 : decode cX11_plan 58 = .ok (.getfield 28, 3) := by decide +kernel
theorem dX11_plan_61 : decode cX11_plan 61 = .ok (.iload_n 1, 1) := by decide +kernel
theorem dX11_plan_62 : decode cX11_plan 62 = .ok (.invokevirtual 126, 3) := by decide +kernel
theorem dX11_plan_65 : decode cX11_plan 65 = .ok (.ifCond .eq 17, 3) := by decide +kernel
theorem dX11_plan_68 : decode cX11_plan 68 = .ok (.aload_n 0, 1) := by decide +kernel
theorem dX11_plan_69 : decode cX11_plan 69 = .ok (.getfield 79, 3) := by decide +kernel
theorem dX11_plan_72 : decode cX11_plan 72 = .ok (.getfield 248, 3) := by decide +kernel
theorem dX11_plan_75 : decode cX11_plan 75 = .ok (.iload_n 1, 1) := by decide +kernel
theorem dX11_plan_76 : decode cX11_plan 76 = .ok (.invokevirtual 136, 3) := by decide +kernel
theorem dX11_plan_79 : decode cX11_plan 79 = .ok (.goto 5, 3) := by decide +kernel
theorem dX11_plan_82 : decode cX11_plan 82 = .ok (.bipush (-2), 2) := by decide +kernel
theorem dX11_plan_84 : decode cX11_plan 84 = .ok (.ireturn, 1) := by decide +kernel
theorem dX11_best_0 : decode cX11_best 0 = .ok (.iload_n 1, 1) := by decide +kernel
theorem dX11_best_1 : decode cX11_best 1 = .ok (.iconst 1, 1) := by decide +kernel
theorem dX11_best_2 : decode cX11_best 2 = .ok (.if_icmp .lt 19, 3) := by decide +kernel
theorem dX11_best_5 : decode cX11_best 5 = .ok (.iload_n 1, 1) := by decide +kernel
theorem dX11_best_6 : decode cX11_best 6 = .ok (.bipush 6, 2) := by decide +kernel
theorem dX11_best_8 : decode cX11_best 8 = .ok (.if_icmp .gt 13, 3) := by decide +kernel
theorem dX11_best_11 : decode cX11_best 11 = .ok (.iload_n 2, 1) := by decide +kernel
theorem dX11_best_12 : decode cX11_best 12 = .ok (.ifCond .lt 9, 3) := by decide +kernel
theorem dX11_best_15 : decode cX11_best 15 = .ok (.iload_n 2, 1) := by decide +kernel
theorem dX11_best_16 : decode cX11_best 16 = .ok (.bipush 6, 2) := by decide +kernel
theorem dX11_best_18 : decode cX11_best 18 = .ok (.if_icmp .le 5, 3) := by decide +kernel
theorem dX11_best_21 : decode cX11_best 21 = .ok (.iconst (-1), 1) := by decide +kernel
theorem dX11_best_22 : decode cX11_best 22 = .ok (.ireturn, 1) := by decide +kernel
theorem dX11_best_23 : decode cX11_best 23 = .ok (.aload_n 0, 1) := by decide +kernel
theorem dX11_best_24 : decode cX11_best 24 = .ok (.getfield 28, 3) := by decide +kernel
theorem dX11_best_27 : decode cX11_best 27 = .ok (.getfield 251, 3) := by decide +kernel
theorem dX11_best_30 : decode cX11_best 30 = .ok (.ifCond .eq 14, 3) := by decide +kernel
theorem dX11_best_33 : decode cX11_best 33 = .ok (.iload_n 2, 1) := by decide +kernel
theorem dX11_best_34 : decode cX11_best 34 = .ok (.iload_n 1, 1) := by decide +kernel
theorem dX11_best_35 : decode cX11_best 35 = .ok (.if_icmp .lt 12, 3) := by decide +kernel
theorem dX11_best_38 : decode cX11_best 38 = .ok (.iload_n 2, 1) := by decide +kernel
theorem dX11_best_39 : decode cX11_best 39 = .ok (.bipush 6, 2) := by decide +kernel
theorem dX11_best_41 : decode cX11_best 41 = .ok (.if_icmp .ge 6, 3) := by decide +kernel
theorem dX11_best_44 : decode cX11_best 44 = .ok (.bipush (-2), 2) := by decide +kernel
theorem dX11_best_46 : decode cX11_best 46 = .ok (.ireturn, 1) := by decide +kernel
theorem dX11_best_47 : decode cX11_best 47 = .ok (.aload_n 0, 1) := by decide +kernel
theorem dX11_best_48 : decode cX11_best 48 = .ok (.getfield 51, 3) := by decide +kernel
theorem dX11_best_51 : decode cX11_best 51 = .ok (.aload_n 0, 1) := by decide +kernel
theorem dX11_best_52 : decode cX11_best 52 = .ok (.getfield 28, 3) := by decide +kernel
theorem dX11_best_55 : decode cX11_best 55 = .ok (.invokevirtual 177, 3) := by decide +kernel
theorem dX11_best_58 : decode cX11_best 58 = .ok (.aload_n 0, 1) := by decide +kernel
theorem dX11_best_59 : decode cX11_best 59 = .ok (.getfield 79, 3) := by decide +kernel
theorem dX11_best_62 : decode cX11_best 62 = .ok (.aload_n 0, 1) := by decide +kernel
theorem dX11_best_63 : decode cX11_best 63 = .ok (.getfield 28, 3) := by decide +kernel
theorem dX11_best_66 : decode cX11_best 66 = .ok (.aload_n 0, 1) := by decide +kernel
theorem dX11_best_67 : decode cX11_best 67 = .ok (.getfield 38, 3) := by decide +kernel
theorem dX11_best_70 : decode cX11_best 70 = .ok (.iload_n 1, 1) := by decide +kernel
theorem dX11_best_71 : decode cX11_best 71 = .ok (.invokevirtual 254, 3) := by decide +kernel
theorem dX11_best_74 : decode cX11_best 74 = .ok (.aload_n 0, 1) := by decide +kernel
theorem dX11_best_75 : decode cX11_best 75 = .ok (.getfield 79, 3) := by decide +kernel
theorem dX11_best_78 : decode cX11_best 78 = .ok (.iconst 0, 1) := by decide +kernel
theorem dX11_best_79 : decode cX11_best 79 = .ok (.aload_n 0, 1) := by decide +kernel
theorem dX11_best_80 : decode cX11_best 80 = .ok (.getfield 51, 3) := by decide +kernel
theorem dX11_best_83 : decode cX11_best 83 = .ok (.invokestatic 258, 3) := by decide +kernel
theorem dX11_best_86 : decode cX11_best 86 = .ok (.iload_n 2, 1) := by decide +kernel
theorem dX11_best_87 : decode cX11_best 87 = .ok (.bipush 6, 2) := by decide +kernel
theorem dX11_best_89 : decode cX11_best 89 = .ok (.if_icmp .ne 13, 3) := by decide +kernel
theorem dX11_best_92 : decode cX11_best 92 = .ok (.aload_n 0, 1) := by decide +kernel
theorem dX11_best_93 : decode cX11_best 93 = .ok (.getfield 79, 3) := by decide +kernel
theorem dX11_best_96 : decode cX11_best 96 = .ok (.getfield 262, 3) := by decide +kernel
theorem dX11_best_99 : decode cX11_best 99 = .ok (.goto 14, 3) := by decide +kernel
theorem dX11_best_102 : decode cX11_best 102 = .ok (.aload_n 0, 1) := by decide +kernel
theorem dX11_best_103 : decode cX11_best 103 = .ok (.getfield 79, 3) := by decide +kernel
theorem dX11_best_106 : decode cX11_best 106 = .ok (.getfield 265, 3) := by decide +kernel
theorem dX11_best_109 : decode cX11_best 109 = .ok (.iload_n 2, 1) := by decide +kernel
theorem dX11_best_110 : decode cX11_best 110 = .ok (.invokevirtual 136, 3) := by decide +kernel
theorem dX11_best_113 : decode cX11_best 113 = .ok (.ireturn, 1) := by decide +kernel
theorem dX11_fair_0 : decode cX11_fair 0 = .ok (.aload_n 0, 1) := by decide +kernel
theorem dX11_fair_1 : decode cX11_fair 1 = .ok (.getfield 38, 3) := by decide +kernel
theorem dX11_fair_4 : decode cX11_fair 4 = .ok (.iload_n 1, 1) := by decide +kernel
theorem dX11_fair_5 : decode cX11_fair 5 = .ok (.invokevirtual 154, 3) := by decide +kernel
theorem dX11_fair_8 : decode cX11_fair 8 = .ok (.ifCond .ne 5, 3) := by decide +kernel
theorem dX11_fair_11 : decode cX11_fair 11 = .ok (.iconst (-1), 1) := by decide +kernel
theorem dX11_fair_12 : decode cX11_fair 12 = .ok (.ireturn, 1) := by decide +kernel
theorem dX11_fair_13 : decode cX11_fair 13 = .ok (.aload_n 0, 1) := by decide +kernel
theorem dX11_fair_14 : decode cX11_fair 14 = .ok (.getfield 72, 3) := by decide +kernel
theorem dX11_fair_17 : decode cX11_fair 17 = .ok (.aload_n 0, 1) := by decide +kernel
theorem dX11_fair_18 : decode cX11_fair 18 = .ok (.getfield 28, 3) := by decide +kernel
theorem dX11_fair_21 : decode cX11_fair 21 = .ok (.aload_n 0, 1) := by decide +kernel
theorem dX11_fair_22 : decode cX11_fair 22 = .ok (.getfield 38, 3) := by decide +kernel
theorem dX11_fair_25 : decode cX11_fair 25 = .ok (.invokevirtual 268, 3) := by decide +kernel
theorem dX11_fair_28 : decode cX11_fair 28 = .ok (.aload_n 0, 1) := by decide +kernel
theorem dX11_fair_29 : decode cX11_fair 29 = .ok (.getfield 72, 3) := by decide +kernel
theorem dX11_fair_32 : decode cX11_fair 32 = .ok (.getfield 272, 3) := by decide +kernel
theorem dX11_fair_35 : decode cX11_fair 35 = .ok (.iload_n 1, 1) := by decide +kernel
theorem dX11_fair_36 : decode cX11_fair 36 = .ok (.invokevirtual 136, 3) := by decide +kernel
theorem dX11_fair_39 : decode cX11_fair 39 = .ok (.ireturn, 1) := by decide +kernel
theorem dX11_pairs_0 : decode cX11_pairs 0 = .ok (.aload_n 0, 1) := by decide +kernel
theorem dX11_pairs_1 : decode cX11_pairs 1 = .ok (.getfield 72, 3) := by decide +kernel
theorem dX11_pairs_4 : decode cX11_pairs 4 = .ok (.aload_n 0, 1) := by decide +kernel
theorem dX11_pairs_5 : decode cX11_pairs 5 = .ok (.getfield 28, 3) := by decide +kernel
theorem dX11_pairs_8 : decode cX11_pairs 8 = .ok (.aload_n 0, 1) := by decide +kernel
theorem dX11_pairs_9 : decode cX11_pairs 9 = .ok (.getfield 38, 3) := by decide +kernel
theorem dX11_pairs_12 : decode cX11_pairs 12 = .ok (.invokevirtual 275, 3) := by decide +kernel
theorem dX11_pairs_15 : decode cX11_pairs 15 = .ok (.ireturn, 1) := by decide +kernel
theorem dX11_power_0 : decode cX11_power 0 = .ok (.aload_n 0, 1) := by decide +kernel
theorem dX11_power_1 : decode cX11_power 1 = .ok (.getfield 28, 3) := by decide +kernel
theorem dX11_power_4 : decode cX11_power 4 = .ok (.iload_n 1, 1) := by decide +kernel
theorem dX11_power_5 : decode cX11_power 5 = .ok (.invokevirtual 126, 3) := by decide +kernel
theorem dX11_power_8 : decode cX11_power 8 = .ok (.ifCond .ne 5, 3) := by decide +kernel
theorem dX11_power_11 : decode cX11_power 11 = .ok (.iconst (-1), 1) := by decide +kernel
theorem dX11_power_12 : decode cX11_power 12 = .ok (.ireturn, 1) := by decide +kernel
theorem dX11_power_13 : decode cX11_power 13 = .ok (.aload_n 0, 1) := by decide +kernel
theorem dX11_power_14 : decode cX11_power 14 = .ok (.getfield 72, 3) := by decide +kernel
theorem dX11_power_17 : decode cX11_power 17 = .ok (.aload_n 0, 1) := by decide +kernel
theorem dX11_power_18 : decode cX11_power 18 = .ok (.getfield 28, 3) := by decide +kernel
theorem dX11_power_21 : decode cX11_power 21 = .ok (.aload_n 0, 1) := by decide +kernel
theorem dX11_power_22 : decode cX11_power 22 = .ok (.getfield 38, 3) := by decide +kernel
theorem dX11_power_25 : decode cX11_power 25 = .ok (.invokevirtual 279, 3) := by decide +kernel
theorem dX11_power_28 : decode cX11_power 28 = .ok (.aload_n 0, 1) := by decide +kernel
theorem dX11_power_29 : decode cX11_power 29 = .ok (.getfield 72, 3) := by decide +kernel
theorem dX11_power_32 : decode cX11_power 32 = .ok (.iload_n 1, 1) := by decide +kernel
theorem dX11_power_33 : decode cX11_power 33 = .ok (.aload_n 0, 1) := by decide +kernel
theorem dX11_power_34 : decode cX11_power 34 = .ok (.getfield 28, 3) := by decide +kernel
theorem dX11_power_37 : decode cX11_power 37 = .ok (.getfield 251, 3) := by decide +kernel
theorem dX11_power_40 : decode cX11_power 40 = .ok (.aload_n 0, 1) := by decide +kernel
theorem dX11_power_41 : decode cX11_power 41 = .ok (.getfield 38, 3) := by decide +kernel
theorem dX11_power_44 : decode cX11_power 44 = .ok (.getfield 282, 3) := by decide +kernel
theorem dX11_power_47 : decode cX11_power 47 = .ok (.invokevirtual 285, 3) := by decide +kernel
theorem dX11_power_50 : decode cX11_power 50 = .ok (.ireturn, 1) := by decide +kernel
theorem dX11_even_0 : decode cX11_even 0 = .ok (.iload_n 1, 1) := by decide +kernel
theorem dX11_even_1 : decode cX11_even 1 = .ok (.ifCond .lt 15, 3) := by decide +kernel
theorem dX11_even_4 : decode cX11_even 4 = .ok (.iload_n 1, 1) := by decide +kernel
theorem dX11_even_5 : decode cX11_even 5 = .ok (.aload_n 0, 1) := by decide +kernel
theorem dX11_even_6 : decode cX11_even 6 = .ok (.getfield 28, 3) := by decide +kernel
theorem dX11_even_9 : decode cX11_even 9 = .ok (.getfield 251, 3) := by decide +kernel
theorem dX11_even_12 : decode cX11_even 12 = .ok (.ishr, 1) := by decide +kernel
theorem dX11_even_13 : decode cX11_even 13 = .ok (.ifCond .eq 5, 3) := by decide +kernel
theorem dX11_even_16 : decode cX11_even 16 = .ok (.iconst (-1), 1) := by decide +kernel
theorem dX11_even_17 : decode cX11_even 17 = .ok (.ireturn, 1) := by decide +kernel
theorem dX11_even_18 : decode cX11_even 18 = .ok (.aload_n 0, 1) := by decide +kernel
theorem dX11_even_19 : decode cX11_even 19 = .ok (.getfield 72, 3) := by decide +kernel
theorem dX11_even_22 : decode cX11_even 22 = .ok (.aload_n 0, 1) := by decide +kernel
theorem dX11_even_23 : decode cX11_even 23 = .ok (.getfield 28, 3) := by decide +kernel
theorem dX11_even_26 : decode cX11_even 26 = .ok (.aload_n 0, 1) := by decide +kernel
theorem dX11_even_27 : decode cX11_even 27 = .ok (.getfield 38, 3) := by decide +kernel
theorem dX11_even_30 : decode cX11_even 30 = .ok (.invokevirtual 279, 3) := by decide +kernel
theorem dX11_even_33 : decode cX11_even 33 = .ok (.aload_n 0, 1) := by decide +kernel
theorem dX11_even_34 : decode cX11_even 34 = .ok (.getfield 72, 3) := by decide +kernel
theorem dX11_even_37 : decode cX11_even 37 = .ok (.iload_n 1, 1) := by decide +kernel
theorem dX11_even_38 : decode cX11_even 38 = .ok (.invokevirtual 289, 3) := by decide +kernel
theorem dX11_even_41 : decode cX11_even 41 = .ok (.ifCond .eq 7, 3) := by decide +kernel
theorem dX11_even_44 : decode cX11_even 44 = .ok (.iconst 1, 1) := by decide +kernel
theorem dX11_even_45 : decode cX11_even 45 = .ok (.goto 4, 3) := by decide +kernel
theorem dX11_even_48 : decode cX11_even 48 = .ok (.iconst 0, 1) := by decide +kernel
theorem dX11_even_49 : decode cX11_even 49 = .ok (.ireturn, 1) := by decide +kernel
theorem dX11_rare_0 : decode cX11_rare 0 = .ok (.bipush (-2), 2) := by decide +kernel
theorem dX11_rare_2 : decode cX11_rare 2 = .ok (.istore_n 1, 1) := by decide +kernel
theorem dX11_rare_3 : decode cX11_rare 3 = .ok (.iconst 0, 1) := by decide +kernel
theorem dX11_rare_4 : decode cX11_rare 4 = .ok (.istore_n 2, 1) := by decide +kernel
theorem dX11_rare_5 : decode cX11_rare 5 = .ok (.iload_n 2, 1) := by decide +kernel
theorem dX11_rare_6 : decode cX11_rare 6 = .ok (.aload_n 0, 1) := by decide +kernel
theorem dX11_rare_7 : decode cX11_rare 7 = .ok (.getfield 28, 3) := by decide +kernel
theorem dX11_rare_10 : decode cX11_rare 10 = .ok (.getfield 251, 3) := by decide +kernel
theorem dX11_rare_13 : decode cX11_rare 13 = .ok (.if_icmp .ge 63, 3) := by decide +kernel
theorem dX11_rare_16 : decode cX11_rare 16 = .ok (.iload_n 1, 1) := by decide +kernel
theorem dX11_rare_17 : decode cX11_rare 17 = .ok (.bipush (-2), 2) := by decide +kernel
theorem dX11_rare_19 : decode cX11_rare 19 = .ok (.if_icmp .eq 28, 3) := by decide +kernel
theorem dX11_rare_22 : decode cX11_rare 22 = .ok (.aload_n 0, 1) := by decide +kernel
theorem dX11_rare_23 : decode cX11_rare 23 = .ok (.getfield 38, 3) := by decide +kernel
theorem dX11_rare_26 : decode cX11_rare 26 = .ok (.getfield 145, 3) := by decide +kernel
theorem dX11_rare_29 : decode cX11_rare 29 = .ok (.iload_n 2, 1) := by decide +kernel
theorem dX11_rare_30 : decode cX11_rare 30 = .ok (.invokevirtual 136, 3) := by decide +kernel
theorem dX11_rare_33 : decode cX11_rare 33 = .ok (.aload_n 0, 1) := by decide +kernel
theorem dX11_rare_34 : decode cX11_rare 34 = .ok (.getfield 38, 3) := by decide +kernel
theorem dX11_rare_37 : decode cX11_rare 37 = .ok (.getfield 145, 3) := by decide +kernel
theorem dX11_rare_40 : decode cX11_rare 40 = .ok (.iload_n 1, 1) := by decide +kernel
theorem dX11_rare_41 : decode cX11_rare 41 = .ok (.invokevirtual 136, 3) := by decide +kernel
theorem dX11_rare_44 : decode cX11_rare 44 = .ok (.if_icmp .ge 7, 3) := by decide +kernel
theorem dX11_rare_47 : decode cX11_rare 47 = .ok (.iconst 1, 1) := by decide +kernel
theorem dX11_rare_48 : decode cX11_rare 48 = .ok (.goto 4, 3) := by decide +kernel
theorem dX11_rare_51 : decode cX11_rare 51 = .ok (.iconst 0, 1) := by decide +kernel
theorem dX11_rare_52 : decode cX11_rare 52 = .ok (.istore_n 3, 1) := by decide +kernel
theorem dX11_rare_53 : decode cX11_rare 53 = .ok (.iload_n 3, 1) := by decide +kernel
theorem dX11_rare_54 : decode cX11_rare 54 = .ok (.ifCond .eq 16, 3) := by decide +kernel
theorem dX11_rare_57 : decode cX11_rare 57 = .ok (.aload_n 0, 1) := by decide +kernel
theorem dX11_rare_58 : decode cX11_rare 58 = .ok (.getfield 38, 3) := by decide +kernel
theorem dX11_rare_61 : decode cX11_rare 61 = .ok (.iload_n 2, 1) := by decide +kernel
theorem dX11_rare_62 : decode cX11_rare 62 = .ok (.invokevirtual 148, 3) := by decide +kernel
theorem dX11_rare_65 : decode cX11_rare 65 = .ok (.ifCond .le 5, 3) := by decide +kernel
theorem dX11_rare_68 : decode cX11_rare 68 = .ok (.iload_n 2, 1) := by decide +kernel
theorem dX11_rare_69 : decode cX11_rare 69 = .ok (.istore_n 1, 1) := by decide +kernel
theorem dX11_rare_70 : decode cX11_rare 70 = .ok (.iinc 2 1, 3) := by decide +kernel
theorem dX11_rare_73 : decode cX11_rare 73 = .ok (.goto (-68), 3) := by decide +kernel
theorem dX11_rare_76 : decode cX11_rare 76 = .ok (.iload_n 1, 1) := by decide +kernel
theorem dX11_rare_77 : decode cX11_rare 77 = .ok (.ireturn, 1) := by decide +kernel
theorem dX11_rests_0 : decode cX11_rests 0 = .ok (.iload_n 1, 1) := by decide +kernel
theorem dX11_rests_1 : decode cX11_rests 1 = .ok (.iload_n 2, 1) := by decide +kernel
theorem dX11_rests_2 : decode cX11_rests 2 = .ok (.if_icmp .eq 25, 3) := by decide +kernel
theorem dX11_rests_5 : decode cX11_rests 5 = .ok (.aload_n 0, 1) := by decide +kernel
theorem dX11_rests_6 : decode cX11_rests 6 = .ok (.getfield 28, 3) := by decide +kernel
theorem dX11_rests_9 : decode cX11_rests 9 = .ok (.iload_n 1, 1) := by decide +kernel
theorem dX11_rests_10 : decode cX11_rests 10 = .ok (.invokevirtual 126, 3) := by decide +kernel
theorem dX11_rests_13 : decode cX11_rests 13 = .ok (.ifCond .eq 14, 3) := by decide +kernel
theorem dX11_rests_16 : decode cX11_rests 16 = .ok (.aload_n 0, 1) := by decide +kernel
theorem dX11_rests_17 : decode cX11_rests 17 = .ok (.getfield 28, 3) := by decide +kernel
theorem dX11_rests_20 : decode cX11_rests 20 = .ok (.iload_n 2, 1) := by decide +kernel
theorem dX11_rests_21 : decode cX11_rests 21 = .ok (.invokevirtual 126, 3) := by decide +kernel
theorem dX11_rests_24 : decode cX11_rests 24 = .ok (.ifCond .ne 5, 3) := by decide +kernel
theorem dX11_rests_27 : decode cX11_rests 27 = .ok (.iconst (-1), 1) := by decide +kernel
theorem dX11_rests_28 : decode cX11_rests 28 = .ok (.ireturn, 1) := by decide +kernel
theorem dX11_rests_29 : decode cX11_rests 29 = .ok (.iconst 0, 1) := by decide +kernel
theorem dX11_rests_30 : decode cX11_rests 30 = .ok (.istore_n 3, 1) := by decide +kernel
theorem dX11_rests_31 : decode cX11_rests 31 = .ok (.iconst 0, 1) := by decide +kernel
theorem dX11_rests_32 : decode cX11_rests 32 = .ok (.istore 4, 2) := by decide +kernel
theorem dX11_rests_34 : decode cX11_rests 34 = .ok (.iload 4, 2) := by decide +kernel
theorem dX11_rests_36 : decode cX11_rests 36 = .ok (.iconst 4, 1) := by decide +kernel
theorem dX11_rests_37 : decode cX11_rests 37 = .ok (.if_icmp .ge 23, 3) := by decide +kernel
theorem dX11_rests_40 : decode cX11_rests 40 = .ok (.aload_n 0, 1) := by decide +kernel
theorem dX11_rests_41 : decode cX11_rests 41 = .ok (.iload_n 1, 1) := by decide +kernel
theorem dX11_rests_42 : decode cX11_rests 42 = .ok (.iload_n 2, 1) := by decide +kernel
theorem dX11_rests_43 : decode cX11_rests 43 = .ok (.iload 4, 2) := by decide +kernel
theorem dX11_rests_45 : decode cX11_rests 45 = .ok (.invokevirtual 292, 3) := by decide +kernel
theorem dX11_rests_48 : decode cX11_rests 48 = .ok (.ifCond .eq 6, 3) := by decide +kernel
theorem dX11_rests_51 : decode cX11_rests 51 = .ok (.iinc 3 1, 3) := by decide +kernel
theorem dX11_rests_54 : decode cX11_rests 54 = .ok (.iinc 4 1, 3) := by decide +kernel
theorem dX11_rests_57 : decode cX11_rests 57 = .ok (.goto (-23), 3) := by decide +kernel
theorem dX11_rests_60 : decode cX11_rests 60 = .ok (.iload_n 3, 1) := by decide +kernel
theorem dX11_rests_61 : decode cX11_rests 61 = .ok (.ireturn, 1) := by decide +kernel
theorem dX11_rest_0 : decode cX11_rest 0 = .ok (.iload_n 1, 1) := by decide +kernel
theorem dX11_rest_1 : decode cX11_rest 1 = .ok (.iload_n 2, 1) := by decide +kernel
theorem dX11_rest_2 : decode cX11_rest 2 = .ok (.if_icmp .eq 29, 3) := by decide +kernel
theorem dX11_rest_5 : decode cX11_rest 5 = .ok (.aload_n 0, 1) := by decide +kernel
theorem dX11_rest_6 : decode cX11_rest 6 = .ok (.getfield 28, 3) := by decide +kernel
theorem dX11_rest_9 : decode cX11_rest 9 = .ok (.iload_n 1, 1) := by decide +kernel
theorem dX11_rest_10 : decode cX11_rest 10 = .ok (.invokevirtual 126, 3) := by decide +kernel
theorem dX11_rest_13 : decode cX11_rest 13 = .ok (.ifCond .eq 18, 3) := by decide +kernel
theorem dX11_rest_16 : decode cX11_rest 16 = .ok (.aload_n 0, 1) := by decide +kernel
theorem dX11_rest_17 : decode cX11_rest 17 = .ok (.getfield 28, 3) := by decide +kernel
theorem dX11_rest_20 : decode cX11_rest 20 = .ok (.iload_n 2, 1) := by decide +kernel
theorem dX11_rest_21 : decode cX11_rest 21 = .ok (.invokevirtual 126, 3) := by decide +kernel
theorem dX11_rest_24 : decode cX11_rest 24 = .ok (.ifCond .eq 7, 3) := by decide +kernel
theorem dX11_rest_27 : decode cX11_rest 27 = .ok (.iload_n 3, 1) := by decide +kernel
theorem dX11_rest_28 : decode cX11_rest 28 = .ok (.ifCond .ge 5, 3) := by decide +kernel
theorem dX11_rest_31 : decode cX11_rest 31 = .ok (.iconst (-1), 1) := by decide +kernel
theorem dX11_rest_32 : decode cX11_rest 32 = .ok (.ireturn, 1) := by decide +kernel
theorem dX11_rest_33 : decode cX11_rest 33 = .ok (.iload_n 3, 1) := by decide +kernel
theorem dX11_rest_34 : decode cX11_rest 34 = .ok (.istore 4, 2) := by decide +kernel
theorem dX11_rest_36 : decode cX11_rest 36 = .ok (.iconst 0, 1) := by decide +kernel
theorem dX11_rest_37 : decode cX11_rest 37 = .ok (.istore 5, 2) := by decide +kernel
theorem dX11_rest_39 : decode cX11_rest 39 = .ok (.iload 5, 2) := by decide +kernel
theorem dX11_rest_41 : decode cX11_rest 41 = .ok (.iconst 4, 1) := by decide +kernel
theorem dX11_rest_42 : decode cX11_rest 42 = .ok (.if_icmp .ge 41, 3) := by decide +kernel
theorem dX11_rest_45 : decode cX11_rest 45 = .ok (.aload_n 0, 1) := by decide +kernel
theorem dX11_rest_46 : decode cX11_rest 46 = .ok (.iload_n 1, 1) := by decide +kernel
theorem dX11_rest_47 : decode cX11_rest 47 = .ok (.iload_n 2, 1) := by decide +kernel
theorem dX11_rest_48 : decode cX11_rest 48 = .ok (.iload 5, 2) := by decide +kernel
theorem dX11_rest_50 : decode cX11_rest 50 = .ok (.invokevirtual 292, 3) := by decide +kernel
theorem dX11_rest_53 : decode cX11_rest 53 = .ok (.ifCond .eq 24, 3) := by decide +kernel
theorem dX11_rest_56 : decode cX11_rest 56 = .ok (.iload 4, 2) := by decide +kernel
theorem dX11_rest_58 : decode cX11_rest 58 = .ok (.ifCond .ne 16, 3) := by decide +kernel
theorem dX11_rest_61 : decode cX11_rest 61 = .ok (.bipush 10, 2) := by decide +kernel
theorem dX11_rest_63 : decode cX11_rest 63 = .ok (.iload 5, 2) := by decide +kernel
theorem dX11_rest_65 : decode cX11_rest 65 = .ok (.iconst 1, 1) := by decide +kernel
theorem dX11_rest_66 : decode cX11_rest 66 = .ok (.ishr, 1) := by decide +kernel
theorem dX11_rest_67 : decode cX11_rest 67 = .ok (.imul, 1) := by decide +kernel
theorem dX11_rest_68 : decode cX11_rest 68 = .ok (.iload 5, 2) := by decide +kernel
theorem dX11_rest_70 : decode cX11_rest 70 = .ok (.iconst 1, 1) := by decide +kernel
theorem dX11_rest_71 : decode cX11_rest 71 = .ok (.iand, 1) := by decide +kernel
theorem dX11_rest_72 : decode cX11_rest 72 = .ok (.iadd, 1) := by decide +kernel
theorem dX11_rest_73 : decode cX11_rest 73 = .ok (.ireturn, 1) := by decide +kernel
theorem dX11_rest_74 : decode cX11_rest 74 = .ok (.iinc 4 (-1), 3) := by decide +kernel
theorem dX11_rest_77 : decode cX11_rest 77 = .ok (.iinc 5 1, 3) := by decide +kernel
theorem dX11_rest_80 : decode cX11_rest 80 = .ok (.goto (-41), 3) := by decide +kernel
theorem dX11_rest_83 : decode cX11_rest 83 = .ok (.bipush (-2), 2) := by decide +kernel
theorem dX11_rest_85 : decode cX11_rest 85 = .ok (.ireturn, 1) := by decide +kernel
theorem dX11_isRest_0 : decode cX11_isRest 0 = .ok (.iload_n 3, 1) := by decide +kernel
theorem dX11_isRest_1 : decode cX11_isRest 1 = .ok (.iconst 1, 1) := by decide +kernel
theorem dX11_isRest_2 : decode cX11_isRest 2 = .ok (.ishr, 1) := by decide +kernel
theorem dX11_isRest_3 : decode cX11_isRest 3 = .ok (.istore 4, 2) := by decide +kernel
theorem dX11_isRest_5 : decode cX11_isRest 5 = .ok (.iload_n 3, 1) := by decide +kernel
theorem dX11_isRest_6 : decode cX11_isRest 6 = .ok (.iconst 1, 1) := by decide +kernel
theorem dX11_isRest_7 : decode cX11_isRest 7 = .ok (.iand, 1) := by decide +kernel
theorem dX11_isRest_8 : decode cX11_isRest 8 = .ok (.istore 5, 2) := by decide +kernel
theorem dX11_isRest_10 : decode cX11_isRest 10 = .ok (.aload_n 0, 1) := by decide +kernel
theorem dX11_isRest_11 : decode cX11_isRest 11 = .ok (.iload_n 1, 1) := by decide +kernel
theorem dX11_isRest_12 : decode cX11_isRest 12 = .ok (.iload_n 2, 1) := by decide +kernel
theorem dX11_isRest_13 : decode cX11_isRest 13 = .ok (.iload 4, 2) := by decide +kernel
theorem dX11_isRest_15 : decode cX11_isRest 15 = .ok (.iload 5, 2) := by decide +kernel
theorem dX11_isRest_17 : decode cX11_isRest 17 = .ok (.invokevirtual 296, 3) := by decide +kernel
theorem dX11_isRest_20 : decode cX11_isRest 20 = .ok (.aload_n 0, 1) := by decide +kernel
theorem dX11_isRest_21 : decode cX11_isRest 21 = .ok (.iload_n 1, 1) := by decide +kernel
theorem dX11_isRest_22 : decode cX11_isRest 22 = .ok (.iload_n 2, 1) := by decide +kernel
theorem dX11_isRest_23 : decode cX11_isRest 23 = .ok (.iconst 1, 1) := by decide +kernel
theorem dX11_isRest_24 : decode cX11_isRest 24 = .ok (.iload 4, 2) := by decide +kernel
theorem dX11_isRest_26 : decode cX11_isRest 26 = .ok (.isub, 1) := by decide +kernel
theorem dX11_isRest_27 : decode cX11_isRest 27 = .ok (.iload 5, 2) := by decide +kernel
theorem dX11_isRest_29 : decode cX11_isRest 29 = .ok (.invokevirtual 296, 3) := by decide +kernel
theorem dX11_isRest_32 : decode cX11_isRest 32 = .ok (.if_icmp .lt 32, 3) := by decide +kernel
theorem dX11_isRest_35 : decode cX11_isRest 35 = .ok (.aload_n 0, 1) := by decide +kernel
theorem dX11_isRest_36 : decode cX11_isRest 36 = .ok (.iload_n 2, 1) := by decide +kernel
theorem dX11_isRest_37 : decode cX11_isRest 37 = .ok (.iload_n 1, 1) := by decide +kernel
theorem dX11_isRest_38 : decode cX11_isRest 38 = .ok (.iload 5, 2) := by decide +kernel
theorem dX11_isRest_40 : decode cX11_isRest 40 = .ok (.iload 4, 2) := by decide +kernel
theorem dX11_isRest_42 : decode cX11_isRest 42 = .ok (.invokevirtual 296, 3) := by decide +kernel
theorem dX11_isRest_45 : decode cX11_isRest 45 = .ok (.aload_n 0, 1) := by decide +kernel
theorem dX11_isRest_46 : decode cX11_isRest 46 = .ok (.iload_n 2, 1) := by decide +kernel
theorem dX11_isRest_47 : decode cX11_isRest 47 = .ok (.iload_n 1, 1) := by decide +kernel
theorem dX11_isRest_48 : decode cX11_isRest 48 = .ok (.iconst 1, 1) := by decide +kernel
theorem dX11_isRest_49 : decode cX11_isRest 49 = .ok (.iload 5, 2) := by decide +kernel
theorem dX11_isRest_51 : decode cX11_isRest 51 = .ok (.isub, 1) := by decide +kernel
theorem dX11_isRest_52 : decode cX11_isRest 52 = .ok (.iload 4, 2) := by decide +kernel
theorem dX11_isRest_54 : decode cX11_isRest 54 = .ok (.invokevirtual 296, 3) := by decide +kernel
theorem dX11_isRest_57 : decode cX11_isRest 57 = .ok (.if_icmp .lt 7, 3) := by decide +kernel
theorem dX11_isRest_60 : decode cX11_isRest 60 = .ok (.iconst 1, 1) := by decide +kernel
theorem dX11_isRest_61 : decode cX11_isRest 61 = .ok (.goto 4, 3) := by decide +kernel
theorem dX11_isRest_64 : decode cX11_isRest 64 = .ok (.iconst 0, 1) := by decide +kernel
theorem dX11_isRest_65 : decode cX11_isRest 65 = .ok (.ireturn, 1) := by decide +kernel
theorem dX11_gain_0 : decode cX11_gain 0 = .ok (.aload_n 0, 1) := by decide +kernel
theorem dX11_gain_1 : decode cX11_gain 1 = .ok (.getfield 28, 3) := by decide +kernel
theorem dX11_gain_4 : decode cX11_gain 4 = .ok (.getfield 139, 3) := by decide +kernel
theorem dX11_gain_7 : decode cX11_gain 7 = .ok (.iload_n 1, 1) := by decide +kernel
theorem dX11_gain_8 : decode cX11_gain 8 = .ok (.invokevirtual 136, 3) := by decide +kernel
theorem dX11_gain_11 : decode cX11_gain 11 = .ok (.istore 5, 2) := by decide +kernel
theorem dX11_gain_13 : decode cX11_gain 13 = .ok (.iload_n 3, 1) := by decide +kernel
theorem dX11_gain_14 : decode cX11_gain 14 = .ok (.ifCond .ne 40, 3) := by decide +kernel
theorem dX11_gain_17 : decode cX11_gain 17 = .ok (.iload 4, 2) := by decide +kernel
theorem dX11_gain_19 : decode cX11_gain 19 = .ok (.ifCond .ne 35, 3) := by decide +kernel
theorem dX11_gain_22 : decode cX11_gain 22 = .ok (.iload 5, 2) := by decide +kernel
theorem dX11_gain_24 : decode cX11_gain 24 = .ok (.aload_n 0, 1) := by decide +kernel
theorem dX11_gain_25 : decode cX11_gain 25 = .ok (.getfield 28, 3) := by decide +kernel
theorem dX11_gain_28 : decode cX11_gain 28 = .ok (.getfield 133, 3) := by decide +kernel
theorem dX11_gain_31 : decode cX11_gain 31 = .ok (.iload_n 1, 1) := by decide +kernel
theorem dX11_gain_32 : decode cX11_gain 32 = .ok (.invokevirtual 136, 3) := by decide +kernel
theorem dX11_gain_35 : decode cX11_gain 35 = .ok (.aload_n 0, 1) := by decide +kernel
theorem dX11_gain_36 : decode cX11_gain 36 = .ok (.getfield 28, 3) := by decide +kernel
theorem dX11_gain_39 : decode cX11_gain 39 = .ok (.getfield 133, 3) := by decide +kernel
theorem dX11_gain_42 : decode cX11_gain 42 = .ok (.iload_n 2, 1) := by decide +kernel
theorem dX11_gain_43 : decode cX11_gain 43 = .ok (.invokevirtual 136, 3) := by decide +kernel
theorem dX11_gain_46 : decode cX11_gain 46 = .ok (.isub, 1) := by decide +kernel
theorem dX11_gain_47 : decode cX11_gain 47 = .ok (.invokestatic 300, 3) := by decide +kernel
theorem dX11_gain_50 : decode cX11_gain 50 = .ok (.iconst 3, 1) := by decide +kernel
theorem dX11_gain_51 : decode cX11_gain 51 = .ok (.idiv, 1) := by decide +kernel
theorem dX11_gain_52 : decode cX11_gain 52 = .ok (.isub, 1) := by decide +kernel
theorem dX11_gain_53 : decode cX11_gain 53 = .ok (.ireturn, 1) := by decide +kernel
theorem dX11_gain_54 : decode cX11_gain 54 = .ok (.iload_n 3, 1) := by decide +kernel
theorem dX11_gain_55 : decode cX11_gain 55 = .ok (.ifCond .ne 21, 3) := by decide +kernel
theorem dX11_gain_58 : decode cX11_gain 58 = .ok (.iload 5, 2) := by decide +kernel
theorem dX11_gain_60 : decode cX11_gain 60 = .ok (.aload_n 0, 1) := by decide +kernel
theorem dX11_gain_61 : decode cX11_gain 61 = .ok (.getfield 38, 3) := by decide +kernel
theorem dX11_gain_64 : decode cX11_gain 64 = .ok (.getfield 142, 3) := by decide +kernel
theorem dX11_gain_67 : decode cX11_gain 67 = .ok (.iload_n 1, 1) := by decide +kernel
theorem dX11_gain_68 : decode cX11_gain 68 = .ok (.invokevirtual 136, 3) := by decide +kernel
theorem dX11_gain_71 : decode cX11_gain 71 = .ok (.bipush 20, 2) := by decide +kernel
theorem dX11_gain_73 : decode cX11_gain 73 = .ok (.idiv, 1) := by decide +kernel
theorem dX11_gain_74 : decode cX11_gain 74 = .ok (.iadd, 1) := by decide +kernel
theorem dX11_gain_75 : decode cX11_gain 75 = .ok (.ireturn, 1) := by decide +kernel
theorem dX11_gain_76 : decode cX11_gain 76 = .ok (.iload 4, 2) := by decide +kernel
theorem dX11_gain_78 : decode cX11_gain 78 = .ok (.ifCond .ne 7, 3) := by decide +kernel
theorem dX11_gain_81 : decode cX11_gain 81 = .ok (.iconst 2, 1) := by decide +kernel
theorem dX11_gain_82 : decode cX11_gain 82 = .ok (.goto 4, 3) := by decide +kernel
theorem dX11_gain_85 : decode cX11_gain 85 = .ok (.iconst 1, 1) := by decide +kernel
theorem dX11_gain_86 : decode cX11_gain 86 = .ok (.ireturn, 1) := by decide +kernel
theorem dX11_sure_0 : decode cX11_sure 0 = .ok (.iload_n 1, 1) := by decide +kernel
theorem dX11_sure_1 : decode cX11_sure 1 = .ok (.ifCond .lt 18, 3) := by decide +kernel
theorem dX11_sure_4 : decode cX11_sure 4 = .ok (.iload_n 1, 1) := by decide +kernel
theorem dX11_sure_5 : decode cX11_sure 5 = .ok (.bipush 6, 2) := by decide +kernel
theorem dX11_sure_7 : decode cX11_sure 7 = .ok (.if_icmp .gt 12, 3) := by decide +kernel
theorem dX11_sure_10 : decode cX11_sure 10 = .ok (.iload_n 2, 1) := by decide +kernel
theorem dX11_sure_11 : decode cX11_sure 11 = .ok (.ifCond .lt 8, 3) := by decide +kernel
theorem dX11_sure_14 : decode cX11_sure 14 = .ok (.iload_n 2, 1) := by decide +kernel
theorem dX11_sure_15 : decode cX11_sure 15 = .ok (.iconst 1, 1) := by decide +kernel
theorem dX11_sure_16 : decode cX11_sure 16 = .ok (.if_icmp .le 7, 3) := by decide +kernel
theorem dX11_sure_19 : decode cX11_sure 19 = .ok (.ldc2_w 303, 3) := by decide +kernel
theorem dX11_sure_22 : decode cX11_sure 22 = .ok (.lreturn, 1) := by decide +kernel
theorem dX11_sure_23 : decode cX11_sure 23 = .ok (.bipush 100, 2) := by decide +kernel
theorem dX11_sure_25 : decode cX11_sure 25 = .ok (.aload_n 0, 1) := by decide +kernel
theorem dX11_sure_26 : decode cX11_sure 26 = .ok (.getfield 28, 3) := by decide +kernel
theorem dX11_sure_29 : decode cX11_sure 29 = .ok (.getfield 305, 3) := by decide +kernel
theorem dX11_sure_32 : decode cX11_sure 32 = .ok (.isub, 1) := by decide +kernel
theorem dX11_sure_33 : decode cX11_sure 33 = .ok (.istore_n 3, 1) := by decide +kernel
theorem dX11_sure_34 : decode cX11_sure 34 = .ok (.bipush 100, 2) := by decide +kernel
theorem dX11_sure_36 : decode cX11_sure 36 = .ok (.istore 4, 2) := by decide +kernel
theorem dX11_sure_38 : decode cX11_sure 38 = .ok (.bipush 100, 2) := by decide +kernel
theorem dX11_sure_40 : decode cX11_sure 40 = .ok (.istore 5, 2) := by decide +kernel
theorem dX11_sure_42 : decode cX11_sure 42 = .ok (.iload 5, 2) := by decide +kernel
theorem dX11_sure_44 : decode cX11_sure 44 = .ok (.iconst 1, 1) := by decide +kernel
theorem dX11_sure_45 : decode cX11_sure 45 = .ok (.if_icmp .le 36, 3) := by decide +kernel
theorem dX11_sure_48 : decode cX11_sure 48 = .ok (.iload_n 3, 1) := by decide +kernel
theorem dX11_sure_49 : decode cX11_sure 49 = .ok (.iload 5, 2) := by decide +kernel
theorem dX11_sure_51 : decode cX11_sure 51 = .ok (.irem, 1) := by decide +kernel
theorem dX11_sure_52 : decode cX11_sure 52 = .ok (.ifCond .ne 23, 3) := by decide +kernel
theorem dX11_sure_55 : decode cX11_sure 55 = .ok (.iload 4, 2) := by decide +kernel
theorem dX11_sure_57 : decode cX11_sure 57 = .ok (.iload 5, 2) := by decide +kernel
theorem dX11_sure_59 : decode cX11_sure 59 = .ok (.irem, 1) := by decide +kernel
theorem dX11_sure_60 : decode cX11_sure 60 = .ok (.ifCond .ne 15, 3) := by decide +kernel
theorem dX11_sure_63 : decode cX11_sure 63 = .ok (.iload_n 3, 1) := by decide +kernel
theorem dX11_sure_64 : decode cX11_sure 64 = .ok (.iload 5, 2) := by decide +kernel
theorem dX11_sure_66 : decode cX11_sure 66 = .ok (.idiv, 1) := by decide +kernel
theorem dX11_sure_67 : decode cX11_sure 67 = .ok (.istore_n 3, 1) := by decide +kernel
theorem dX11_sure_68 : decode cX11_sure 68 = .ok (.iload 4, 2) := by decide +kernel
theorem dX11_sure_70 : decode cX11_sure 70 = .ok (.iload 5, 2) := by decide +kernel
theorem dX11_sure_72 : decode cX11_sure 72 = .ok (.idiv, 1) := by decide +kernel
theorem dX11_sure_73 : decode cX11_sure 73 = .ok (.istore 4, 2) := by decide +kernel
theorem dX11_sure_75 : decode cX11_sure 75 = .ok (.iinc 5 (-1), 3) := by decide +kernel
theorem dX11_sure_78 : decode cX11_sure 78 = .ok (.goto (-36), 3) := by decide +kernel
theorem dX11_sure_81 : decode cX11_sure 81 = .ok (.lconst 1, 1) := by decide +kernel
theorem dX11_sure_82 : decode cX11_sure 82 = .ok (.lstore 5, 2) := by decide +kernel
theorem dX11_sure_84 : decode cX11_sure 84 = .ok (.iconst 0, 1) := by decide +kernel
theorem dX11_sure_85 : decode cX11_sure 85 = .ok (.istore 7, 2) := by decide +kernel
theorem dX11_sure_87 : decode cX11_sure 87 = .ok (.iload 7, 2) := by decide +kernel
theorem dX11_sure_89 : decode cX11_sure 89 = .ok (.iload_n 1, 1) := by decide +kernel
theorem dX11_sure_90 : decode cX11_sure 90 = .ok (.if_icmp .ge 26, 3) := by decide +kernel
theorem dX11_sure_93 : decode cX11_sure 93 = .ok (.lload 5, 2) := by decide +kernel
theorem dX11_sure_95 : decode cX11_sure 95 = .ok (.iload_n 2, 1) := by decide +kernel
theorem dX11_sure_96 : decode cX11_sure 96 = .ok (.ifCond .ne 8, 3) := by decide +kernel
theorem dX11_sure_99 : decode cX11_sure 99 = .ok (.iload_n 3, 1) := by decide +kernel
theorem dX11_sure_100 : decode cX11_sure 100 = .ok (.i2l, 1) := by decide +kernel
theorem dX11_sure_101 : decode cX11_sure 101 = .ok (.goto 6, 3) := by decide +kernel
theorem dX11_sure_104 : decode cX11_sure 104 = .ok (.iload 4, 2) := by decide +kernel
theorem dX11_sure_106 : decode cX11_sure 106 = .ok (.i2l, 1) := by decide +kernel
theorem dX11_sure_107 : decode cX11_sure 107 = .ok (.lmul, 1) := by decide +kernel
theorem dX11_sure_108 : decode cX11_sure 108 = .ok (.lstore 5, 2) := by decide +kernel
theorem dX11_sure_110 : decode cX11_sure 110 = .ok (.iinc 7 1, 3) := by decide +kernel
theorem dX11_sure_113 : decode cX11_sure 113 = .ok (.goto (-26), 3) := by decide +kernel
theorem dX11_sure_116 : decode cX11_sure 116 = .ok (.lload 5, 2) := by decide +kernel
theorem dX11_sure_118 : decode cX11_sure 118 = .ok (.lreturn, 1) := by decide +kernel
theorem dX11_note_0 : decode cX11_note 0 = .ok (.iload_n 1, 1) := by decide +kernel
theorem dX11_note_1 : decode cX11_note 1 = .ok (.iconst 1, 1) := by decide +kernel
theorem dX11_note_2 : decode cX11_note 2 = .ok (.if_icmp .lt 19, 3) := by decide +kernel
theorem dX11_note_5 : decode cX11_note 5 = .ok (.iload_n 1, 1) := by decide +kernel
theorem dX11_note_6 : decode cX11_note 6 = .ok (.bipush 60, 2) := by decide +kernel
theorem dX11_note_8 : decode cX11_note 8 = .ok (.if_icmp .gt 13, 3) := by decide +kernel
theorem dX11_note_11 : decode cX11_note 11 = .ok (.iload_n 2, 1) := by decide +kernel
theorem dX11_note_12 : decode cX11_note 12 = .ok (.ifCond .lt 9, 3) := by decide +kernel
theorem dX11_note_15 : decode cX11_note 15 = .ok (.iload_n 2, 1) := by decide +kernel
theorem dX11_note_16 : decode cX11_note 16 = .ok (.bipush 24, 2) := by decide +kernel
theorem dX11_note_18 : decode cX11_note 18 = .ok (.if_icmp .le 5, 3) := by decide +kernel
theorem dX11_note_21 : decode cX11_note 21 = .ok (.iconst (-1), 1) := by decide +kernel
theorem dX11_note_22 : decode cX11_note 22 = .ok (.ireturn, 1) := by decide +kernel
theorem dX11_note_23 : decode cX11_note 23 = .ok (.aload_n 0, 1) := by decide +kernel
theorem dX11_note_24 : decode cX11_note 24 = .ok (.getfield 58, 3) := by decide +kernel
theorem dX11_note_27 : decode cX11_note 27 = .ok (.iload_n 3, 1) := by decide +kernel
theorem dX11_note_28 : decode cX11_note 28 = .ok (.ifCond .eq 7, 3) := by decide +kernel
theorem dX11_note_31 : decode cX11_note 31 = .ok (.iconst 0, 1) := by decide +kernel
theorem dX11_note_32 : decode cX11_note 32 = .ok (.goto 4, 3) := by decide +kernel
theorem dX11_note_35 : decode cX11_note 35 = .ok (.iconst 1, 1) := by decide +kernel
theorem dX11_note_36 : decode cX11_note 36 = .ok (.iload_n 1, 1) := by decide +kernel
theorem dX11_note_37 : decode cX11_note 37 = .ok (.iload_n 2, 1) := by decide +kernel
theorem dX11_note_38 : decode cX11_note 38 = .ok (.invokevirtual 308, 3) := by decide +kernel
theorem dX11_note_41 : decode cX11_note 41 = .ok (.ireturn, 1) := by decide +kernel
theorem dX11_strike_0 : decode cX11_strike 0 = .ok (.iload_n 1, 1) := by decide +kernel
theorem dX11_strike_1 : decode cX11_strike 1 = .ok (.ifCond .lt 14, 3) := by decide +kernel
theorem dX11_strike_4 : decode cX11_strike 4 = .ok (.iload_n 1, 1) := by decide +kernel
theorem dX11_strike_5 : decode cX11_strike 5 = .ok (.aload_n 0, 1) := by decide +kernel
theorem dX11_strike_6 : decode cX11_strike 6 = .ok (.getfield 58, 3) := by decide +kernel
theorem dX11_strike_9 : decode cX11_strike 9 = .ok (.getfield 310, 3) := by decide +kernel
theorem dX11_strike_12 : decode cX11_strike 12 = .ok (.if_icmp .lt 5, 3) := by decide +kernel
theorem dX11_strike_15 : decode cX11_strike 15 = .ok (.iconst (-1), 1) := by decide +kernel
theorem dX11_strike_16 : decode cX11_strike 16 = .ok (.ireturn, 1) := by decide +kernel
theorem dX11_strike_17 : decode cX11_strike 17 = .ok (.aload_n 0, 1) := by decide +kernel
theorem dX11_strike_18 : decode cX11_strike 18 = .ok (.getfield 58, 3) := by decide +kernel
theorem dX11_strike_21 : decode cX11_strike 21 = .ok (.iconst 2, 1) := by decide +kernel
theorem dX11_strike_22 : decode cX11_strike 22 = .ok (.iload_n 1, 1) := by decide +kernel
theorem dX11_strike_23 : decode cX11_strike 23 = .ok (.iconst 0, 1) := by decide +kernel
theorem dX11_strike_24 : decode cX11_strike 24 = .ok (.invokevirtual 308, 3) := by decide +kernel
theorem dX11_strike_27 : decode cX11_strike 27 = .ok (.ireturn, 1) := by decide +kernel
theorem dX11_toldBy_0 : decode cX11_toldBy 0 = .ok (.iload_n 1, 1) := by decide +kernel
theorem dX11_toldBy_1 : decode cX11_toldBy 1 = .ok (.iconst (-1), 1) := by decide +kernel
theorem dX11_toldBy_2 : decode cX11_toldBy 2 = .ok (.if_icmp .lt 14, 3) := by decide +kernel
theorem dX11_toldBy_5 : decode cX11_toldBy 5 = .ok (.iload_n 1, 1) := by decide +kernel
theorem dX11_toldBy_6 : decode cX11_toldBy 6 = .ok (.aload_n 0, 1) := by decide +kernel
theorem dX11_toldBy_7 : decode cX11_toldBy 7 = .ok (.getfield 58, 3) := by decide +kernel
theorem dX11_toldBy_10 : decode cX11_toldBy 10 = .ok (.getfield 310, 3) := by decide +kernel
theorem dX11_toldBy_13 : decode cX11_toldBy 13 = .ok (.if_icmp .le 5, 3) := by decide +kernel
theorem dX11_toldBy_16 : decode cX11_toldBy 16 = .ok (.iconst 0, 1) := by decide +kernel
theorem dX11_toldBy_17 : decode cX11_toldBy 17 = .ok (.ireturn, 1) := by decide +kernel
theorem dX11_toldBy_18 : decode cX11_toldBy 18 = .ok (.aload_n 0, 1) := by decide +kernel
theorem dX11_toldBy_19 : decode cX11_toldBy 19 = .ok (.getfield 58, 3) := by decide +kernel
theorem dX11_toldBy_22 : decode cX11_toldBy 22 = .ok (.iload_n 1, 1) := by decide +kernel
theorem dX11_toldBy_23 : decode cX11_toldBy 23 = .ok (.putfield 313, 3) := by decide +kernel
theorem dX11_toldBy_26 : decode cX11_toldBy 26 = .ok (.iconst 1, 1) := by decide +kernel
theorem dX11_toldBy_27 : decode cX11_toldBy 27 = .ok (.ireturn, 1) := by decide +kernel
theorem dX11_hours_0 : decode cX11_hours 0 = .ok (.aload_n 0, 1) := by decide +kernel
theorem dX11_hours_1 : decode cX11_hours 1 = .ok (.getfield 28, 3) := by decide +kernel
theorem dX11_hours_4 : decode cX11_hours 4 = .ok (.iload_n 1, 1) := by decide +kernel
theorem dX11_hours_5 : decode cX11_hours 5 = .ok (.invokevirtual 126, 3) := by decide +kernel
theorem dX11_hours_8 : decode cX11_hours 8 = .ok (.ifCond .ne 5, 3) := by decide +kernel
theorem dX11_hours_11 : decode cX11_hours 11 = .ok (.iconst (-1), 1) := by decide +kernel
theorem dX11_hours_12 : decode cX11_hours 12 = .ok (.ireturn, 1) := by decide +kernel
theorem dX11_hours_13 : decode cX11_hours 13 = .ok (.aload_n 0, 1) := by decide +kernel
theorem dX11_hours_14 : decode cX11_hours 14 = .ok (.iload_n 1, 1) := by decide +kernel
theorem dX11_hours_15 : decode cX11_hours 15 = .ok (.iconst 0, 1) := by decide +kernel
theorem dX11_hours_16 : decode cX11_hours 16 = .ok (.invokevirtual 314, 3) := by decide +kernel
theorem dX11_hours_19 : decode cX11_hours 19 = .ok (.aload_n 0, 1) := by decide +kernel
theorem dX11_hours_20 : decode cX11_hours 20 = .ok (.getfield 58, 3) := by decide +kernel
theorem dX11_hours_23 : decode cX11_hours 23 = .ok (.invokevirtual 317, 3) := by decide +kernel
theorem dX11_hours_26 : decode cX11_hours 26 = .ok (.ireturn, 1) := by decide +kernel
theorem dX11_ask_0 : decode cX11_ask 0 = .ok (.aload_n 0, 1) := by decide +kernel
theorem dX11_ask_1 : decode cX11_ask 1 = .ok (.getfield 28, 3) := by decide +kernel
theorem dX11_ask_4 : decode cX11_ask 4 = .ok (.iload_n 1, 1) := by decide +kernel
theorem dX11_ask_5 : decode cX11_ask 5 = .ok (.invokevirtual 126, 3) := by decide +kernel
theorem dX11_ask_8 : decode cX11_ask 8 = .ok (.ifCond .eq 12, 3) := by decide +kernel
theorem dX11_ask_11 : decode cX11_ask 11 = .ok (.iload_n 2, 1) := by decide +kernel
theorem dX11_ask_12 : decode cX11_ask 12 = .ok (.ifCond .lt 8, 3) := by decide +kernel
theorem dX11_ask_15 : decode cX11_ask 15 = .ok (.iload_n 2, 1) := by decide +kernel
theorem dX11_ask_16 : decode cX11_ask 16 = .ok (.iconst 1, 1) := by decide +kernel
theorem dX11_ask_17 : decode cX11_ask 17 = .ok (.if_icmp .le 5, 3) := by decide +kernel
theorem dX11_ask_20 : decode cX11_ask 20 = .ok (.iconst (-1), 1) := by decide +kernel
theorem dX11_ask_21 : decode cX11_ask 21 = .ok (.ireturn, 1) := by decide +kernel
theorem dX11_ask_22 : decode cX11_ask 22 = .ok (.aload_n 0, 1) := by decide +kernel
theorem dX11_ask_23 : decode cX11_ask 23 = .ok (.iload_n 1, 1) := by decide +kernel
theorem dX11_ask_24 : decode cX11_ask 24 = .ok (.bipush 60, 2) := by decide +kernel
theorem dX11_ask_26 : decode cX11_ask 26 = .ok (.invokevirtual 314, 3) := by decide +kernel
theorem dX11_ask_29 : decode cX11_ask 29 = .ok (.aload_n 0, 1) := by decide +kernel
theorem dX11_ask_30 : decode cX11_ask 30 = .ok (.getfield 58, 3) := by decide +kernel
theorem dX11_ask_33 : decode cX11_ask 33 = .ok (.aload_n 0, 1) := by decide +kernel
theorem dX11_ask_34 : decode cX11_ask 34 = .ok (.getfield 58, 3) := by decide +kernel
theorem dX11_ask_37 : decode cX11_ask 37 = .ok (.invokevirtual 317, 3) := by decide +kernel
theorem dX11_ask_40 : decode cX11_ask 40 = .ok (.invokevirtual 321, 3) := by decide +kernel
theorem dX11_ask_43 : decode cX11_ask 43 = .ok (.iload_n 2, 1) := by decide +kernel
theorem dX11_ask_44 : decode cX11_ask 44 = .ok (.ifCond .ne 13, 3) := by decide +kernel
theorem dX11_ask_47 : decode cX11_ask 47 = .ok (.aload_n 0, 1) := by decide +kernel
theorem dX11_ask_48 : decode cX11_ask 48 = .ok (.getfield 58, 3) := by decide +kernel
theorem dX11_ask_51 : decode cX11_ask 51 = .ok (.getfield 324, 3) := by decide +kernel
theorem dX11_ask_54 : decode cX11_ask 54 = .ok (.goto 10, 3) := by decide +kernel
theorem dX11_ask_57 : decode cX11_ask 57 = .ok (.aload_n 0, 1) := by decide +kernel
theorem dX11_ask_58 : decode cX11_ask 58 = .ok (.getfield 58, 3) := by decide +kernel
theorem dX11_ask_61 : decode cX11_ask 61 = .ok (.getfield 327, 3) := by decide +kernel
theorem dX11_ask_64 : decode cX11_ask 64 = .ok (.ireturn, 1) := by decide +kernel
theorem dX11_watchHours_0 : decode cX11_watchHours 0 = .ok (.aload_n 0, 1) := by decide +kernel
theorem dX11_watchHours_1 : decode cX11_watchHours 1 = .ok (.getfield 51, 3) := by decide +kernel
theorem dX11_watchHours_4 : decode cX11_watchHours 4 = .ok (.aload_n 0, 1) := by decide +kernel
theorem dX11_watchHours_5 : decode cX11_watchHours 5 = .ok (.getfield 28, 3) := by decide +kernel
theorem dX11_watchHours_8 : decode cX11_watchHours 8 = .ok (.invokevirtual 177, 3) := by decide +kernel
theorem dX11_watchHours_11 : decode cX11_watchHours 11 = .ok (.aload_n 0, 1) := by decide +kernel
theorem dX11_watchHours_12 : decode cX11_watchHours 12 = .ok (.getfield 58, 3) := by decide +kernel
theorem dX11_watchHours_15 : decode cX11_watchHours 15 = .ok (.invokevirtual 330, 3) := by decide +kernel
theorem dX11_watchHours_18 : decode cX11_watchHours 18 = .ok (.iload_n 2, 1) := by decide +kernel
theorem dX11_watchHours_19 : decode cX11_watchHours 19 = .ok (.aload_n 0, 1) := by decide +kernel
theorem dX11_watchHours_20 : decode cX11_watchHours 20 = .ok (.getfield 58, 3) := by decide +kernel
theorem dX11_watchHours_23 : decode cX11_watchHours 23 = .ok (.invokevirtual 333, 3) := by decide +kernel
theorem dX11_watchHours_26 : decode cX11_watchHours 26 = .ok (.invokestatic 238, 3) := by decide +kernel
theorem dX11_watchHours_29 : decode cX11_watchHours 29 = .ok (.istore_n 3, 1) := by decide +kernel
theorem dX11_watchHours_30 : decode cX11_watchHours 30 = .ok (.iconst 0, 1) := by decide +kernel
theorem dX11_watchHours_31 : decode cX11_watchHours 31 = .ok (.istore 4, 2) := by decide +kernel
theorem dX11_watchHours_33 : decode cX11_watchHours 33 = .ok (.iload 4, 2) := by decide +kernel
theorem dX11_watchHours_35 : decode cX11_watchHours 35 = .ok (.bipush 24, 2) := by decide +kernel
theorem dX11_watchHours_37 : decode cX11_watchHours 37 = .ok (.if_icmp .ge 77, 3) := by decide +kernel
theorem dX11_watchHours_40 : decode cX11_watchHours 40 = .ok (.aload_n 0, 1) := by decide +kernel
theorem dX11_watchHours_41 : decode cX11_watchHours 41 = .ok (.getfield 51, 3) := by decide +kernel
theorem dX11_watchHours_44 : decode cX11_watchHours 44 = .ok (.getfield 336, 3) := by decide +kernel
theorem dX11_watchHours_47 : decode cX11_watchHours 47 = .ok (.iload_n 1, 1) := by decide +kernel
theorem dX11_watchHours_48 : decode cX11_watchHours 48 = .ok (.iload 4, 2) := by decide +kernel
theorem dX11_watchHours_50 : decode cX11_watchHours 50 = .ok (.invokevirtual 90, 3) := by decide +kernel
theorem dX11_watchHours_53 : decode cX11_watchHours 53 = .ok (.aload_n 0, 1) := by decide +kernel
theorem dX11_watchHours_54 : decode cX11_watchHours 54 = .ok (.getfield 42, 3) := by decide +kernel
theorem dX11_watchHours_57 : decode cX11_watchHours 57 = .ok (.aload_n 0, 1) := by decide +kernel
theorem dX11_watchHours_58 : decode cX11_watchHours 58 = .ok (.getfield 28, 3) := by decide +kernel
theorem dX11_watchHours_61 : decode cX11_watchHours 61 = .ok (.invokevirtual 98, 3) := by decide +kernel
theorem dX11_watchHours_64 : decode cX11_watchHours 64 = .ok (.iconst 1, 1) := by decide +kernel
theorem dX11_watchHours_65 : decode cX11_watchHours 65 = .ok (.istore 5, 2) := by decide +kernel
theorem dX11_watchHours_67 : decode cX11_watchHours 67 = .ok (.iload 5, 2) := by decide +kernel
theorem dX11_watchHours_69 : decode cX11_watchHours 69 = .ok (.iload_n 3, 1) := by decide +kernel
theorem dX11_watchHours_70 : decode cX11_watchHours 70 = .ok (.if_icmp .gt 38, 3) := by decide +kernel
theorem dX11_watchHours_73 : decode cX11_watchHours 73 = .ok (.aload_n 0, 1) := by decide +kernel
theorem dX11_watchHours_74 : decode cX11_watchHours 74 = .ok (.getfield 51, 3) := by decide +kernel
theorem dX11_watchHours_77 : decode cX11_watchHours 77 = .ok (.aload_n 0, 1) := by decide +kernel
theorem dX11_watchHours_78 : decode cX11_watchHours 78 = .ok (.getfield 42, 3) := by decide +kernel
theorem dX11_watchHours_81 : decode cX11_watchHours 81 = .ok (.invokevirtual 211, 3) := by decide +kernel
theorem dX11_watchHours_84 : decode cX11_watchHours 84 = .ok (.aload_n 0, 1) := by decide +kernel
theorem dX11_watchHours_85 : decode cX11_watchHours 85 = .ok (.getfield 58, 3) := by decide +kernel
theorem dX11_watchHours_88 : decode cX11_watchHours 88 = .ok (.iload 4, 2) := by decide +kernel
theorem dX11_watchHours_90 : decode cX11_watchHours 90 = .ok (.iload 5, 2) := by decide +kernel
theorem dX11_watchHours_92 : decode cX11_watchHours 92 = .ok (.aload_n 0, 1) := by decide +kernel
theorem dX11_watchHours_93 : decode cX11_watchHours 93 = .ok (.getfield 42, 3) := by decide +kernel
theorem dX11_watchHours_96 : decode cX11_watchHours 96 = .ok (.getfield 235, 3) := by decide +kernel
theorem dX11_watchHours_99 : decode cX11_watchHours 99 = .ok (.invokevirtual 337, 3) := by decide +kernel
theorem dX11_watchHours_102 : decode cX11_watchHours 102 = .ok (.iinc 5 1, 3) := by decide +kernel
theorem dX11_watchHours_105 : decode cX11_watchHours 105 = .ok (.goto (-38), 3) := by decide +kernel
theorem dX11_watchHours_108 : decode cX11_watchHours 108 = .ok (.iinc 4 1, 3) := by decide +kernel
theorem dX11_watchHours_111 : decode cX11_watchHours 111 = .ok (.goto (-78), 3) := by decide +kernel
theorem dX11_watchHours_114 : decode cX11_watchHours 114 = .ok (.return_, 1) := by decide +kernel
theorem dX11_chance_0 : decode cX11_chance 0 = .ok (.iload_n 1, 1) := by decide +kernel
theorem dX11_chance_1 : decode cX11_chance 1 = .ok (.ifCond .lt 25, 3) := by decide +kernel
theorem dX11_chance_4 : decode cX11_chance 4 = .ok (.iload_n 2, 1) := by decide +kernel
theorem dX11_chance_5 : decode cX11_chance 5 = .ok (.iconst 1, 1) := by decide +kernel
theorem dX11_chance_6 : decode cX11_chance 6 = .ok (.if_icmp .lt 20, 3) := by decide +kernel
theorem dX11_chance_9 : decode cX11_chance 9 = .ok (.iload_n 2, 1) := by decide +kernel
theorem dX11_chance_10 : decode cX11_chance 10 = .ok (.bipush 99, 2) := by decide +kernel
theorem dX11_chance_12 : decode cX11_chance 12 = .ok (.if_icmp .gt 14, 3) := by decide +kernel
theorem dX11_chance_15 : decode cX11_chance 15 = .ok (.aload_n 0, 1) := by decide +kernel
theorem dX11_chance_16 : decode cX11_chance 16 = .ok (.getfield 28, 3) := by decide +kernel
theorem dX11_chance_19 : decode cX11_chance 19 = .ok (.iload_n 3, 1) := by decide +kernel
theorem dX11_chance_20 : decode cX11_chance 20 = .ok (.invokevirtual 160, 3) := by decide +kernel
theorem dX11_chance_23 : decode cX11_chance 23 = .ok (.ifCond .ne 5, 3) := by decide +kernel
theorem dX11_chance_26 : decode cX11_chance 26 = .ok (.iconst (-1), 1) := by decide +kernel
theorem dX11_chance_27 : decode cX11_chance 27 = .ok (.ireturn, 1) := by decide +kernel
theorem dX11_chance_28 : decode cX11_chance 28 = .ok (.aload_n 0, 1) := by decide +kernel
theorem dX11_chance_29 : decode cX11_chance 29 = .ok (.getfield 51, 3) := by decide +kernel
theorem dX11_chance_32 : decode cX11_chance 32 = .ok (.aload_n 0, 1) := by decide +kernel
theorem dX11_chance_33 : decode cX11_chance 33 = .ok (.getfield 28, 3) := by decide +kernel
theorem dX11_chance_36 : decode cX11_chance 36 = .ok (.invokevirtual 177, 3) := by decide +kernel
theorem dX11_chance_39 : decode cX11_chance 39 = .ok (.aload_n 0, 1) := by decide +kernel
theorem dX11_chance_40 : decode cX11_chance 40 = .ok (.getfield 51, 3) := by decide +kernel
theorem dX11_chance_43 : decode cX11_chance 43 = .ok (.iconst 1, 1) := by decide +kernel
theorem dX11_chance_44 : decode cX11_chance 44 = .ok (.putfield 201, 3) := by decide +kernel
theorem dX11_chance_47 : decode cX11_chance 47 = .ok (.iload_n 1, 1) := by decide +kernel
theorem dX11_chance_48 : decode cX11_chance 48 = .ok (.istore 4, 2) := by decide +kernel
theorem dX11_chance_50 : decode cX11_chance 50 = .ok (.iconst 0, 1) := by decide +kernel
theorem dX11_chance_51 : decode cX11_chance 51 = .ok (.istore 5, 2) := by decide +kernel
theorem dX11_chance_53 : decode cX11_chance 53 = .ok (.iconst 0, 1) := by decide +kernel
theorem dX11_chance_54 : decode cX11_chance 54 = .ok (.istore 6, 2) := by decide +kernel
theorem dX11_chance_56 : decode cX11_chance 56 = .ok (.iload 6, 2) := by decide +kernel
theorem dX11_chance_58 : decode cX11_chance 58 = .ok (.bipush 10, 2) := by decide +kernel
theorem dX11_chance_60 : decode cX11_chance 60 = .ok (.if_icmp .ge 78, 3) := by decide +kernel
theorem dX11_chance_63 : decode cX11_chance 63 = .ok (.aload_n 0, 1) := by decide +kernel
theorem dX11_chance_64 : decode cX11_chance 64 = .ok (.getfield 42, 3) := by decide +kernel
theorem dX11_chance_67 : decode cX11_chance 67 = .ok (.aload_n 0, 1) := by decide +kernel
theorem dX11_chance_68 : decode cX11_chance 68 = .ok (.getfield 38, 3) := by decide +kernel
theorem dX11_chance_71 : decode cX11_chance 71 = .ok (.invokevirtual 208, 3) := by decide +kernel
theorem dX11_chance_74 : decode cX11_chance 74 = .ok (.aload_n 0, 1) := by decide +kernel
theorem dX11_chance_75 : decode cX11_chance 75 = .ok (.getfield 42, 3) := by decide +kernel
theorem dX11_chance_78 : decode cX11_chance 78 = .ok (.iload 4, 2) := by decide +kernel
theorem dX11_chance_80 : decode cX11_chance 80 = .ok (.putfield 341, 3) := by decide +kernel
theorem dX11_chance_83 : decode cX11_chance 83 = .ok (.aload_n 0, 1) := by decide +kernel
theorem dX11_chance_84 : decode cX11_chance 84 = .ok (.getfield 51, 3) := by decide +kernel
theorem dX11_chance_87 : decode cX11_chance 87 = .ok (.aload_n 0, 1) := by decide +kernel
theorem dX11_chance_88 : decode cX11_chance 88 = .ok (.getfield 42, 3) := by decide +kernel
theorem dX11_chance_91 : decode cX11_chance 91 = .ok (.iload_n 2, 1) := by decide +kernel
theorem dX11_chance_92 : decode cX11_chance 92 = .ok (.invokevirtual 204, 3) := by decide +kernel
theorem dX11_chance_95 : decode cX11_chance 95 = .ok (.aload_n 0, 1) := by decide +kernel
theorem dX11_chance_96 : decode cX11_chance 96 = .ok (.getfield 42, 3) := by decide +kernel
theorem dX11_chance_99 : decode cX11_chance 99 = .ok (.getfield 341, 3) := by decide +kernel
theorem dX11_chance_102 : decode cX11_chance 102 = .ok (.istore 4, 2) := by decide +kernel
theorem dX11_chance_104 : decode cX11_chance 104 = .ok (.aload_n 0, 1) := by decide +kernel
theorem dX11_chance_105 : decode cX11_chance 105 = .ok (.getfield 42, 3) := by decide +kernel
theorem dX11_chance_108 : decode cX11_chance 108 = .ok (.getfield 172, 3) := by decide +kernel
theorem dX11_chance_111 : decode cX11_chance 111 = .ok (.iload_n 3, 1) := by decide +kernel
theorem dX11_chance_112 : decode cX11_chance 112 = .ok (.invokevirtual 136, 3) := by decide +kernel
theorem dX11_chance_115 : decode cX11_chance 115 = .ok (.aload_n 0, 1) := by decide +kernel
theorem dX11_chance_116 : decode cX11_chance 116 = .ok (.getfield 28, 3) := by decide +kernel
theorem dX11_chance_119 : decode cX11_chance 119 = .ok (.getfield 169, 3) := by decide +kernel
theorem dX11_chance_122 : decode cX11_chance 122 = .ok (.iload_n 3, 1) := by decide +kernel
theorem dX11_chance_123 : decode cX11_chance 123 = .ok (.invokevirtual 136, 3) := by decide +kernel
theorem dX11_chance_126 : decode cX11_chance 126 = .ok (.if_icmp .lt 6, 3) := by decide +kernel
theorem dX11_chance_129 : decode cX11_chance 129 = .ok (.iinc 5 1, 3) := by decide +kernel
theorem dX11_chance_132 : decode cX11_chance 132 = .ok (.iinc 6 1, 3) := by decide +kernel
theorem dX11_chance_135 : decode cX11_chance 135 = .ok (.goto (-79), 3) := by decide +kernel
theorem dX11_chance_138 : decode cX11_chance 138 = .ok (.iload 5, 2) := by decide +kernel
theorem dX11_chance_140 : decode cX11_chance 140 = .ok (.ireturn, 1) := by decide +kernel
theorem dX11_tried_0 : decode cX11_tried 0 = .ok (.iload_n 1, 1) := by decide +kernel
theorem dX11_tried_1 : decode cX11_tried 1 = .ok (.iconst 2, 1) := by decide +kernel
theorem dX11_tried_2 : decode cX11_tried 2 = .ok (.if_icmp .ne 14, 3) := by decide +kernel
theorem dX11_tried_5 : decode cX11_tried 5 = .ok (.aload_n 0, 1) := by decide +kernel
theorem dX11_tried_6 : decode cX11_tried 6 = .ok (.getfield 28, 3) := by decide +kernel
theorem dX11_tried_9 : decode cX11_tried 9 = .ok (.iload_n 2, 1) := by decide +kernel
theorem dX11_tried_10 : decode cX11_tried 10 = .ok (.invokevirtual 126, 3) := by decide +kernel
theorem dX11_tried_13 : decode cX11_tried 13 = .ok (.goto 21, 3) := by decide +kernel
theorem dX11_tried_16 : decode cX11_tried 16 = .ok (.iload_n 1, 1) := by decide +kernel
theorem dX11_tried_17 : decode cX11_tried 17 = .ok (.ifCond .lt 16, 3) := by decide +kernel
theorem dX11_tried_20 : decode cX11_tried 20 = .ok (.iload_n 1, 1) := by decide +kernel
theorem dX11_tried_21 : decode cX11_tried 21 = .ok (.iconst 4, 1) := by decide +kernel
theorem dX11_tried_22 : decode cX11_tried 22 = .ok (.if_icmp .gt 11, 3) := by decide +kernel
theorem dX11_tried_25 : decode cX11_tried 25 = .ok (.iload_n 2, 1) := by decide +kernel
theorem dX11_tried_26 : decode cX11_tried 26 = .ok (.ifCond .ne 7, 3) := by decide +kernel
theorem dX11_tried_29 : decode cX11_tried 29 = .ok (.iconst 1, 1) := by decide +kernel
theorem dX11_tried_30 : decode cX11_tried 30 = .ok (.goto 4, 3) := by decide +kernel
theorem dX11_tried_33 : decode cX11_tried 33 = .ok (.iconst 0, 1) := by decide +kernel
theorem dX11_tried_34 : decode cX11_tried 34 = .ok (.istore 4, 2) := by decide +kernel
theorem dX11_tried_36 : decode cX11_tried 36 = .ok (.iload 4, 2) := by decide +kernel
theorem dX11_tried_38 : decode cX11_tried 38 = .ok (.ifCond .eq 10, 3) := by decide +kernel
theorem dX11_tried_41 : decode cX11_tried 41 = .ok (.iload_n 3, 1) := by decide +kernel
theorem dX11_tried_42 : decode cX11_tried 42 = .ok (.invokestatic 195, 3) := by decide +kernel
theorem dX11_tried_45 : decode cX11_tried 45 = .ok (.ifCond .ne 5, 3) := by decide +kernel
theorem dX11_tried_48 : decode cX11_tried 48 = .ok (.iconst (-1), 1) := by decide +kernel
theorem dX11_tried_49 : decode cX11_tried 49 = .ok (.ireturn, 1) := by decide +kernel
theorem dX11_tried_50 : decode cX11_tried 50 = .ok (.aload_n 0, 1) := by decide +kernel
theorem dX11_tried_51 : decode cX11_tried 51 = .ok (.getfield 51, 3) := by decide +kernel
theorem dX11_tried_54 : decode cX11_tried 54 = .ok (.aload_n 0, 1) := by decide +kernel
theorem dX11_tried_55 : decode cX11_tried 55 = .ok (.getfield 28, 3) := by decide +kernel
theorem dX11_tried_58 : decode cX11_tried 58 = .ok (.invokevirtual 177, 3) := by decide +kernel
theorem dX11_tried_61 : decode cX11_tried 61 = .ok (.aload_n 0, 1) := by decide +kernel
theorem dX11_tried_62 : decode cX11_tried 62 = .ok (.getfield 51, 3) := by decide +kernel
theorem dX11_tried_65 : decode cX11_tried 65 = .ok (.iload_n 1, 1) := by decide +kernel
theorem dX11_tried_66 : decode cX11_tried 66 = .ok (.iload_n 2, 1) := by decide +kernel
theorem dX11_tried_67 : decode cX11_tried 67 = .ok (.invokevirtual 344, 3) := by decide +kernel
theorem dX11_tried_70 : decode cX11_tried 70 = .ok (.aload_n 0, 1) := by decide +kernel
theorem dX11_tried_71 : decode cX11_tried 71 = .ok (.getfield 42, 3) := by decide +kernel
theorem dX11_tried_74 : decode cX11_tried 74 = .ok (.aload_n 0, 1) := by decide +kernel
theorem dX11_tried_75 : decode cX11_tried 75 = .ok (.getfield 38, 3) := by decide +kernel
theorem dX11_tried_78 : decode cX11_tried 78 = .ok (.invokevirtual 208, 3) := by decide +kernel
theorem dX11_tried_81 : decode cX11_tried 81 = .ok (.aload_n 0, 1) := by decide +kernel
theorem dX11_tried_82 : decode cX11_tried 82 = .ok (.getfield 51, 3) := by decide +kernel
theorem dX11_tried_85 : decode cX11_tried 85 = .ok (.aload_n 0, 1) := by decide +kernel
theorem dX11_tried_86 : decode cX11_tried 86 = .ok (.getfield 42, 3) := by decide +kernel
theorem dX11_tried_89 : decode cX11_tried 89 = .ok (.iload_n 3, 1) := by decide +kernel
theorem dX11_tried_90 : decode cX11_tried 90 = .ok (.invokevirtual 204, 3) := by decide +kernel
theorem dX11_tried_93 : decode cX11_tried 93 = .ok (.aload_n 0, 1) := by decide +kernel
theorem dX11_tried_94 : decode cX11_tried 94 = .ok (.getfield 28, 3) := by decide +kernel
theorem dX11_tried_97 : decode cX11_tried 97 = .ok (.getfield 217, 3) := by decide +kernel
theorem dX11_tried_100 : decode cX11_tried 100 = .ok (.aload_n 0, 1) := by decide +kernel
theorem dX11_tried_101 : decode cX11_tried 101 = .ok (.getfield 42, 3) := by decide +kernel
theorem dX11_tried_104 : decode cX11_tried 104 = .ok (.getfield 220, 3) := by decide +kernel
theorem dX11_tried_107 : decode cX11_tried 107 = .ok (.isub, 1) := by decide +kernel
theorem dX11_tried_108 : decode cX11_tried 108 = .ok (.ireturn, 1) := by decide +kernel
theorem dX11_undo_0 : decode cX11_undo 0 = .ok (.aload_n 0, 1) := by decide +kernel
theorem dX11_undo_1 : decode cX11_undo 1 = .ok (.getfield 65, 3) := by decide +kernel
theorem dX11_undo_4 : decode cX11_undo 4 = .ok (.aload_n 0, 1) := by decide +kernel
theorem dX11_undo_5 : decode cX11_undo 5 = .ok (.getfield 38, 3) := by decide +kernel
theorem dX11_undo_8 : decode cX11_undo 8 = .ok (.invokevirtual 347, 3) := by decide +kernel
theorem dX11_undo_11 : decode cX11_undo 11 = .ok (.ireturn, 1) := by decide +kernel
theorem dX11_keep_0 : decode cX11_keep 0 = .ok (.aload_n 0, 1) := by decide +kernel
theorem dX11_keep_1 : decode cX11_keep 1 = .ok (.getfield 45, 3) := by decide +kernel
theorem dX11_keep_4 : decode cX11_keep 4 = .ok (.aload_n 0, 1) := by decide +kernel
theorem dX11_keep_5 : decode cX11_keep 5 = .ok (.getfield 38, 3) := by decide +kernel
theorem dX11_keep_8 : decode cX11_keep 8 = .ok (.invokevirtual 208, 3) := by decide +kernel
theorem dX11_keep_11 : decode cX11_keep 11 = .ok (.aload_n 0, 1) := by decide +kernel
theorem dX11_keep_12 : decode cX11_keep 12 = .ok (.iconst 1, 1) := by decide +kernel
theorem dX11_keep_13 : decode cX11_keep 13 = .ok (.putfield 106, 3) := by decide +kernel
theorem dX11_keep_16 : decode cX11_keep 16 = .ok (.aload_n 0, 1) := by decide +kernel
theorem dX11_keep_17 : decode cX11_keep 17 = .ok (.getfield 38, 3) := by decide +kernel
theorem dX11_keep_20 : decode cX11_keep 20 = .ok (.getfield 198, 3) := by decide +kernel
theorem dX11_keep_23 : decode cX11_keep 23 = .ok (.ireturn, 1) := by decide +kernel
theorem dX11_back_0 : decode cX11_back 0 = .ok (.aload_n 0, 1) := by decide +kernel
theorem dX11_back_1 : decode cX11_back 1 = .ok (.getfield 106, 3) := by decide +kernel
theorem dX11_back_4 : decode cX11_back 4 = .ok (.ifCond .ne 5, 3) := by decide +kernel
theorem dX11_back_7 : decode cX11_back 7 = .ok (.iconst (-1), 1) := by decide +kernel
theorem dX11_back_8 : decode cX11_back 8 = .ok (.ireturn, 1) := by decide +kernel
theorem dX11_back_9 : decode cX11_back 9 = .ok (.aload_n 0, 1) := by decide +kernel
theorem dX11_back_10 : decode cX11_back 10 = .ok (.getfield 38, 3) := by decide +kernel
theorem dX11_back_13 : decode cX11_back 13 = .ok (.aload_n 0, 1) := by decide +kernel
theorem dX11_back_14 : decode cX11_back 14 = .ok (.getfield 45, 3) := by decide +kernel
theorem dX11_back_17 : decode cX11_back 17 = .ok (.invokevirtual 208, 3) := by decide +kernel
theorem dX11_back_20 : decode cX11_back 20 = .ok (.aload_n 0, 1) := by decide +kernel
theorem dX11_back_21 : decode cX11_back 21 = .ok (.getfield 65, 3) := by decide +kernel
theorem dX11_back_24 : decode cX11_back 24 = .ok (.invokevirtual 105, 3) := by decide +kernel
theorem dX11_back_27 : decode cX11_back 27 = .ok (.aload_n 0, 1) := by decide +kernel
theorem dX11_back_28 : decode cX11_back 28 = .ok (.getfield 38, 3) := by decide +kernel
theorem dX11_back_31 : decode cX11_back 31 = .ok (.getfield 198, 3) := by decide +kernel
theorem dX11_back_34 : decode cX11_back 34 = .ok (.ireturn, 1) := by decide +kernel
theorem dX11_count_0 : decode cX11_count 0 = .ok (.iload_n 1, 1) := by decide +kernel
theorem dX11_count_1 : decode cX11_count 1 = .ok (.tableswitch 197 0 13 #[71, 79, 87, 95, 103, 114, 122, 130, 146, 154, 162, 173, 181, 189], 71) := by decide +kernel
theorem dX11_count_72 : decode cX11_count 72 = .ok (.aload_n 0, 1) := by decide +kernel
theorem dX11_count_73 : decode cX11_count 73 = .ok (.getfield 28, 3) := by decide +kernel
theorem dX11_count_76 : decode cX11_count 76 = .ok (.getfield 251, 3) := by decide +kernel
theorem dX11_count_79 : decode cX11_count 79 = .ok (.ireturn, 1) := by decide +kernel
theorem dX11_count_80 : decode cX11_count 80 = .ok (.aload_n 0, 1) := by decide +kernel
theorem dX11_count_81 : decode cX11_count 81 = .ok (.getfield 38, 3) := by decide +kernel
theorem dX11_count_84 : decode cX11_count 84 = .ok (.getfield 282, 3) := by decide +kernel
theorem dX11_count_87 : decode cX11_count 87 = .ok (.ireturn, 1) := by decide +kernel
theorem dX11_count_88 : decode cX11_count 88 = .ok (.aload_n 0, 1) := by decide +kernel
theorem dX11_count_89 : decode cX11_count 89 = .ok (.getfield 28, 3) := by decide +kernel
theorem dX11_count_92 : decode cX11_count 92 = .ok (.getfield 351, 3) := by decide +kernel
theorem dX11_count_95 : decode cX11_count 95 = .ok (.ireturn, 1) := by decide +kernel
theorem dX11_count_96 : decode cX11_count 96 = .ok (.aload_n 0, 1) := by decide +kernel
theorem dX11_count_97 : decode cX11_count 97 = .ok (.getfield 28, 3) := by decide +kernel
theorem dX11_count_100 : decode cX11_count 100 = .ok (.getfield 217, 3) := by decide +kernel
theorem dX11_count_103 : decode cX11_count 103 = .ok (.ireturn, 1) := by decide +kernel
theorem dX11_count_104 : decode cX11_count 104 = .ok (.aload_n 0, 1) := by decide +kernel
theorem dX11_count_105 : decode cX11_count 105 = .ok (.getfield 28, 3) := by decide +kernel
theorem dX11_count_108 : decode cX11_count 108 = .ok (.getfield 354, 3) := by decide +kernel
theorem dX11_count_111 : decode cX11_count 111 = .ok (.getfield 358, 3) := by decide +kernel
theorem dX11_count_114 : decode cX11_count 114 = .ok (.ireturn, 1) := by decide +kernel
theorem dX11_count_115 : decode cX11_count 115 = .ok (.aload_n 0, 1) := by decide +kernel
theorem dX11_count_116 : decode cX11_count 116 = .ok (.getfield 38, 3) := by decide +kernel
theorem dX11_count_119 : decode cX11_count 119 = .ok (.getfield 198, 3) := by decide +kernel
theorem dX11_count_122 : decode cX11_count 122 = .ok (.ireturn, 1) := by decide +kernel
theorem dX11_count_123 : decode cX11_count 123 = .ok (.aload_n 0, 1) := by decide +kernel
theorem dX11_count_124 : decode cX11_count 124 = .ok (.getfield 38, 3) := by decide +kernel
theorem dX11_count_127 : decode cX11_count 127 = .ok (.getfield 363, 3) := by decide +kernel
