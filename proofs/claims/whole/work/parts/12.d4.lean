/-! what stands at each place of a code (printed rows of NAMES) -/
theorem dX11_count_130 : decode cX11_count 130 = .ok (.ireturn, 1) := by decide +kernel
theorem dX11_count_131 : decode cX11_count 131 = .ok (.aload_n 0, 1) := by decide +kernel
theorem dX11_count_132 : decode cX11_count 132 = .ok (.getfield 28, 3) := by decide +kernel
theorem dX11_count_135 : decode cX11_count 135 = .ok (.getfield 217, 3) := by decide +kernel
theorem dX11_count_138 : decode cX11_count 138 = .ok (.aload_n 0, 1) := by decide +kernel
theorem dX11_count_139 : decode cX11_count 139 = .ok (.getfield 38, 3) := by decide +kernel
theorem dX11_count_142 : decode cX11_count 142 = .ok (.getfield 220, 3) := by decide +kernel
theorem dX11_count_145 : decode cX11_count 145 = .ok (.isub, 1) := by decide +kernel
theorem dX11_count_146 : decode cX11_count 146 = .ok (.ireturn, 1) := by decide +kernel
theorem dX11_count_147 : decode cX11_count 147 = .ok (.aload_n 0, 1) := by decide +kernel
theorem dX11_count_148 : decode cX11_count 148 = .ok (.getfield 38, 3) := by decide +kernel
theorem dX11_count_151 : decode cX11_count 151 = .ok (.getfield 226, 3) := by decide +kernel
theorem dX11_count_154 : decode cX11_count 154 = .ok (.ireturn, 1) := by decide +kernel
theorem dX11_count_155 : decode cX11_count 155 = .ok (.aload_n 0, 1) := by decide +kernel
theorem dX11_count_156 : decode cX11_count 156 = .ok (.getfield 38, 3) := by decide +kernel
theorem dX11_count_159 : decode cX11_count 159 = .ok (.getfield 223, 3) := by decide +kernel
theorem dX11_count_162 : decode cX11_count 162 = .ok (.ireturn, 1) := by decide +kernel
theorem dX11_count_163 : decode cX11_count 163 = .ok (.aload_n 0, 1) := by decide +kernel
theorem dX11_count_164 : decode cX11_count 164 = .ok (.getfield 38, 3) := by decide +kernel
theorem dX11_count_167 : decode cX11_count 167 = .ok (.getfield 142, 3) := by decide +kernel
theorem dX11_count_170 : decode cX11_count 170 = .ok (.invokevirtual 366, 3) := by decide +kernel
theorem dX11_count_173 : decode cX11_count 173 = .ok (.ireturn, 1) := by decide +kernel
theorem dX11_count_174 : decode cX11_count 174 = .ok (.aload_n 0, 1) := by decide +kernel
theorem dX11_count_175 : decode cX11_count 175 = .ok (.getfield 58, 3) := by decide +kernel
theorem dX11_count_178 : decode cX11_count 178 = .ok (.getfield 310, 3) := by decide +kernel
theorem dX11_count_181 : decode cX11_count 181 = .ok (.ireturn, 1) := by decide +kernel
theorem dX11_count_182 : decode cX11_count 182 = .ok (.aload_n 0, 1) := by decide +kernel
theorem dX11_count_183 : decode cX11_count 183 = .ok (.getfield 58, 3) := by decide +kernel
theorem dX11_count_186 : decode cX11_count 186 = .ok (.invokevirtual 369, 3) := by decide +kernel
theorem dX11_count_189 : decode cX11_count 189 = .ok (.ireturn, 1) := by decide +kernel
theorem dX11_count_190 : decode cX11_count 190 = .ok (.aload_n 0, 1) := by decide +kernel
theorem dX11_count_191 : decode cX11_count 191 = .ok (.getfield 65, 3) := by decide +kernel
theorem dX11_count_194 : decode cX11_count 194 = .ok (.getfield 372, 3) := by decide +kernel
theorem dX11_count_197 : decode cX11_count 197 = .ok (.ireturn, 1) := by decide +kernel
theorem dX11_count_198 : decode cX11_count 198 = .ok (.iconst (-1), 1) := by decide +kernel
theorem dX11_count_199 : decode cX11_count 199 = .ok (.ireturn, 1) := by decide +kernel
theorem dX12_init_0 : decode cX12_init 0 = .ok (.aload_n 0, 1) := by decide +kernel
theorem dX12_init_1 : decode cX12_init 1 = .ok (.invokespecial 1, 3) := by decide +kernel
theorem dX12_init_4 : decode cX12_init 4 = .ok (.aload_n 0, 1) := by decide +kernel
theorem dX12_init_5 : decode cX12_init 5 = .ok (.sipush 700, 3) := by decide +kernel
theorem dX12_init_8 : decode cX12_init 8 = .ok (.newarray .int, 2) := by decide +kernel
theorem dX12_init_10 : decode cX12_init 10 = .ok (.putfield 7, 3) := by decide +kernel
theorem dX12_init_13 : decode cX12_init 13 = .ok (.aload_n 0, 1) := by decide +kernel
theorem dX12_init_14 : decode cX12_init 14 = .ok (.bipush 14, 2) := by decide +kernel
theorem dX12_init_16 : decode cX12_init 16 = .ok (.newarray .int, 2) := by decide +kernel
theorem dX12_init_18 : decode cX12_init 18 = .ok (.putfield 13, 3) := by decide +kernel
theorem dX12_init_21 : decode cX12_init 21 = .ok (.aload_n 0, 1) := by decide +kernel
theorem dX12_init_22 : decode cX12_init 22 = .ok (.bipush 12, 2) := by decide +kernel
theorem dX12_init_24 : decode cX12_init 24 = .ok (.newarray .int, 2) := by decide +kernel
theorem dX12_init_26 : decode cX12_init 26 = .ok (.putfield 16, 3) := by decide +kernel
theorem dX12_init_29 : decode cX12_init 29 = .ok (.aload_n 0, 1) := by decide +kernel
theorem dX12_init_30 : decode cX12_init 30 = .ok (.bipush 12, 2) := by decide +kernel
theorem dX12_init_32 : decode cX12_init 32 = .ok (.newarray .int, 2) := by decide +kernel
theorem dX12_init_34 : decode cX12_init 34 = .ok (.putfield 19, 3) := by decide +kernel
theorem dX12_init_37 : decode cX12_init 37 = .ok (.aload_n 0, 1) := by decide +kernel
theorem dX12_init_38 : decode cX12_init 38 = .ok (.bipush 12, 2) := by decide +kernel
theorem dX12_init_40 : decode cX12_init 40 = .ok (.newarray .int, 2) := by decide +kernel
theorem dX12_init_42 : decode cX12_init 42 = .ok (.putfield 22, 3) := by decide +kernel
theorem dX12_init_45 : decode cX12_init 45 = .ok (.aload_n 0, 1) := by decide +kernel
theorem dX12_init_46 : decode cX12_init 46 = .ok (.bipush 24, 2) := by decide +kernel
theorem dX12_init_48 : decode cX12_init 48 = .ok (.newarray .int, 2) := by decide +kernel
theorem dX12_init_50 : decode cX12_init 50 = .ok (.putfield 25, 3) := by decide +kernel
theorem dX12_init_53 : decode cX12_init 53 = .ok (.aload_n 0, 1) := by decide +kernel
theorem dX12_init_54 : decode cX12_init 54 = .ok (.sipush 200, 3) := by decide +kernel
theorem dX12_init_57 : decode cX12_init 57 = .ok (.newarray .int, 2) := by decide +kernel
theorem dX12_init_59 : decode cX12_init 59 = .ok (.putfield 28, 3) := by decide +kernel
theorem dX12_init_62 : decode cX12_init 62 = .ok (.aload_n 0, 1) := by decide +kernel
theorem dX12_init_63 : decode cX12_init 63 = .ok (.bipush 10, 2) := by decide +kernel
theorem dX12_init_65 : decode cX12_init 65 = .ok (.newarray .int, 2) := by decide +kernel
theorem dX12_init_67 : decode cX12_init 67 = .ok (.putfield 31, 3) := by decide +kernel
theorem dX12_init_70 : decode cX12_init 70 = .ok (.aload_n 0, 1) := by decide +kernel
theorem dX12_init_71 : decode cX12_init 71 = .ok (.bipush 10, 2) := by decide +kernel
theorem dX12_init_73 : decode cX12_init 73 = .ok (.newarray .int, 2) := by decide +kernel
theorem dX12_init_75 : decode cX12_init 75 = .ok (.putfield 34, 3) := by decide +kernel
theorem dX12_init_78 : decode cX12_init 78 = .ok (.aload_n 0, 1) := by decide +kernel
theorem dX12_init_79 : decode cX12_init 79 = .ok (.bipush 10, 2) := by decide +kernel
theorem dX12_init_81 : decode cX12_init 81 = .ok (.newarray .int, 2) := by decide +kernel
theorem dX12_init_83 : decode cX12_init 83 = .ok (.putfield 37, 3) := by decide +kernel
theorem dX12_init_86 : decode cX12_init 86 = .ok (.aload_n 0, 1) := by decide +kernel
theorem dX12_init_87 : decode cX12_init 87 = .ok (.bipush 10, 2) := by decide +kernel
theorem dX12_init_89 : decode cX12_init 89 = .ok (.newarray .int, 2) := by decide +kernel
theorem dX12_init_91 : decode cX12_init 91 = .ok (.putfield 40, 3) := by decide +kernel
theorem dX12_init_94 : decode cX12_init 94 = .ok (.aload_n 0, 1) := by decide +kernel
theorem dX12_init_95 : decode cX12_init 95 = .ok (.bipush 6, 2) := by decide +kernel
theorem dX12_init_97 : decode cX12_init 97 = .ok (.newarray .int, 2) := by decide +kernel
theorem dX12_init_99 : decode cX12_init 99 = .ok (.putfield 43, 3) := by decide +kernel
theorem dX12_init_102 : decode cX12_init 102 = .ok (.aload_n 0, 1) := by decide +kernel
theorem dX12_init_103 : decode cX12_init 103 = .ok (.bipush 6, 2) := by decide +kernel
theorem dX12_init_105 : decode cX12_init 105 = .ok (.newarray .int, 2) := by decide +kernel
theorem dX12_init_107 : decode cX12_init 107 = .ok (.putfield 46, 3) := by decide +kernel
theorem dX12_init_110 : decode cX12_init 110 = .ok (.aload_n 0, 1) := by decide +kernel
theorem dX12_init_111 : decode cX12_init 111 = .ok (.sipush 128, 3) := by decide +kernel
theorem dX12_init_114 : decode cX12_init 114 = .ok (.newarray .int, 2) := by decide +kernel
theorem dX12_init_116 : decode cX12_init 116 = .ok (.putfield 49, 3) := by decide +kernel
theorem dX12_init_119 : decode cX12_init 119 = .ok (.aload_n 0, 1) := by decide +kernel
theorem dX12_init_120 : decode cX12_init 120 = .ok (.sipush 128, 3) := by decide +kernel
theorem dX12_init_123 : decode cX12_init 123 = .ok (.newarray .int, 2) := by decide +kernel
theorem dX12_init_125 : decode cX12_init 125 = .ok (.putfield 52, 3) := by decide +kernel
theorem dX12_init_128 : decode cX12_init 128 = .ok (.aload_n 0, 1) := by decide +kernel
theorem dX12_init_129 : decode cX12_init 129 = .ok (.iconst (-1), 1) := by decide +kernel
theorem dX12_init_130 : decode cX12_init 130 = .ok (.putfield 55, 3) := by decide +kernel
theorem dX12_init_133 : decode cX12_init 133 = .ok (.aload_n 0, 1) := by decide +kernel
theorem dX12_init_134 : decode cX12_init 134 = .ok (.bipush 7, 2) := by decide +kernel
theorem dX12_init_136 : decode cX12_init 136 = .ok (.newarray .long, 2) := by decide +kernel
theorem dX12_init_138 : decode cX12_init 138 = .ok (.putfield 59, 3) := by decide +kernel
theorem dX12_init_141 : decode cX12_init 141 = .ok (.aload_n 0, 1) := by decide +kernel
theorem dX12_init_142 : decode cX12_init 142 = .ok (.bipush 64, 2) := by decide +kernel
theorem dX12_init_144 : decode cX12_init 144 = .ok (.newarray .long, 2) := by decide +kernel
theorem dX12_init_146 : decode cX12_init 146 = .ok (.putfield 63, 3) := by decide +kernel
theorem dX12_init_149 : decode cX12_init 149 = .ok (.aload_n 0, 1) := by decide +kernel
theorem dX12_init_150 : decode cX12_init 150 = .ok (.bipush 30, 2) := by decide +kernel
theorem dX12_init_152 : decode cX12_init 152 = .ok (.newarray .int, 2) := by decide +kernel
theorem dX12_init_154 : decode cX12_init 154 = .ok (.putfield 66, 3) := by decide +kernel
theorem dX12_init_157 : decode cX12_init 157 = .ok (.aload_n 0, 1) := by decide +kernel
theorem dX12_init_158 : decode cX12_init 158 = .ok (.bipush 30, 2) := by decide +kernel
theorem dX12_init_160 : decode cX12_init 160 = .ok (.newarray .int, 2) := by decide +kernel
theorem dX12_init_162 : decode cX12_init 162 = .ok (.putfield 69, 3) := by decide +kernel
theorem dX12_init_165 : decode cX12_init 165 = .ok (.aload_n 0, 1) := by decide +kernel
theorem dX12_init_166 : decode cX12_init 166 = .ok (.bipush 30, 2) := by decide +kernel
theorem dX12_init_168 : decode cX12_init 168 = .ok (.newarray .int, 2) := by decide +kernel
theorem dX12_init_170 : decode cX12_init 170 = .ok (.putfield 72, 3) := by decide +kernel
theorem dX12_init_173 : decode cX12_init 173 = .ok (.aload_n 0, 1) := by decide +kernel
theorem dX12_init_174 : decode cX12_init 174 = .ok (.bipush 30, 2) := by decide +kernel
theorem dX12_init_176 : decode cX12_init 176 = .ok (.newarray .int, 2) := by decide +kernel
theorem dX12_init_178 : decode cX12_init 178 = .ok (.putfield 75, 3) := by decide +kernel
theorem dX12_init_181 : decode cX12_init 181 = .ok (.aload_n 0, 1) := by decide +kernel
theorem dX12_init_182 : decode cX12_init 182 = .ok (.bipush 30, 2) := by decide +kernel
theorem dX12_init_184 : decode cX12_init 184 = .ok (.newarray .int, 2) := by decide +kernel
theorem dX12_init_186 : decode cX12_init 186 = .ok (.putfield 78, 3) := by decide +kernel
theorem dX12_init_189 : decode cX12_init 189 = .ok (.aload_n 0, 1) := by decide +kernel
theorem dX12_init_190 : decode cX12_init 190 = .ok (.bipush 30, 2) := by decide +kernel
theorem dX12_init_192 : decode cX12_init 192 = .ok (.newarray .int, 2) := by decide +kernel
theorem dX12_init_194 : decode cX12_init 194 = .ok (.putfield 81, 3) := by decide +kernel
theorem dX12_init_197 : decode cX12_init 197 = .ok (.aload_n 0, 1) := by decide +kernel
theorem dX12_init_198 : decode cX12_init 198 = .ok (.bipush 30, 2) := by decide +kernel
theorem dX12_init_200 : decode cX12_init 200 = .ok (.newarray .int, 2) := by decide +kernel
theorem dX12_init_202 : decode cX12_init 202 = .ok (.putfield 84, 3) := by decide +kernel
theorem dX12_init_205 : decode cX12_init 205 = .ok (.aload_n 0, 1) := by decide +kernel
theorem dX12_init_206 : decode cX12_init 206 = .ok (.bipush 30, 2) := by decide +kernel
theorem dX12_init_208 : decode cX12_init 208 = .ok (.newarray .int, 2) := by decide +kernel
theorem dX12_init_210 : decode cX12_init 210 = .ok (.putfield 87, 3) := by decide +kernel
theorem dX12_init_213 : decode cX12_init 213 = .ok (.aload_n 0, 1) := by decide +kernel
theorem dX12_init_214 : decode cX12_init 214 = .ok (.sipush 180, 3) := by decide +kernel
theorem dX12_init_217 : decode cX12_init 217 = .ok (.newarray .int, 2) := by decide +kernel
theorem dX12_init_219 : decode cX12_init 219 = .ok (.putfield 90, 3) := by decide +kernel
theorem dX12_init_222 : decode cX12_init 222 = .ok (.aload_n 0, 1) := by decide +kernel
theorem dX12_init_223 : decode cX12_init 223 = .ok (.sipush 180, 3) := by decide +kernel
theorem dX12_init_226 : decode cX12_init 226 = .ok (.newarray .int, 2) := by decide +kernel
theorem dX12_init_228 : decode cX12_init 228 = .ok (.putfield 93, 3) := by decide +kernel
theorem dX12_init_231 : decode cX12_init 231 = .ok (.aload_n 0, 1) := by decide +kernel
theorem dX12_init_232 : decode cX12_init 232 = .ok (.sipush 360, 3) := by decide +kernel
theorem dX12_init_235 : decode cX12_init 235 = .ok (.newarray .int, 2) := by decide +kernel
theorem dX12_init_237 : decode cX12_init 237 = .ok (.putfield 96, 3) := by decide +kernel
theorem dX12_init_240 : decode cX12_init 240 = .ok (.aload_n 0, 1) := by decide +kernel
theorem dX12_init_241 : decode cX12_init 241 = .ok (.sipush 150, 3) := by decide +kernel
theorem dX12_init_244 : decode cX12_init 244 = .ok (.newarray .int, 2) := by decide +kernel
theorem dX12_init_246 : decode cX12_init 246 = .ok (.putfield 99, 3) := by decide +kernel
theorem dX12_init_249 : decode cX12_init 249 = .ok (.aload_n 0, 1) := by decide +kernel
theorem dX12_init_250 : decode cX12_init 250 = .ok (.iconst (-1), 1) := by decide +kernel
theorem dX12_init_251 : decode cX12_init 251 = .ok (.putfield 102, 3) := by decide +kernel
theorem dX12_init_254 : decode cX12_init 254 = .ok (.aload_n 0, 1) := by decide +kernel
theorem dX12_init_255 : decode cX12_init 255 = .ok (.iconst (-1), 1) := by decide +kernel
theorem dX12_init_256 : decode cX12_init 256 = .ok (.putfield 105, 3) := by decide +kernel
theorem dX12_init_259 : decode cX12_init 259 = .ok (.aload_n 0, 1) := by decide +kernel
theorem dX12_init_260 : decode cX12_init 260 = .ok (.bipush 6, 2) := by decide +kernel
theorem dX12_init_262 : decode cX12_init 262 = .ok (.newarray .int, 2) := by decide +kernel
theorem dX12_init_264 : decode cX12_init 264 = .ok (.putfield 108, 3) := by decide +kernel
theorem dX12_init_267 : decode cX12_init 267 = .ok (.aload_n 0, 1) := by decide +kernel
theorem dX12_init_268 : decode cX12_init 268 = .ok (.bipush 6, 2) := by decide +kernel
theorem dX12_init_270 : decode cX12_init 270 = .ok (.newarray .int, 2) := by decide +kernel
theorem dX12_init_272 : decode cX12_init 272 = .ok (.putfield 111, 3) := by decide +kernel
theorem dX12_init_275 : decode cX12_init 275 = .ok (.aload_n 0, 1) := by decide +kernel
theorem dX12_init_276 : decode cX12_init 276 = .ok (.bipush 6, 2) := by decide +kernel
theorem dX12_init_278 : decode cX12_init 278 = .ok (.newarray .int, 2) := by decide +kernel
theorem dX12_init_280 : decode cX12_init 280 = .ok (.putfield 114, 3) := by decide +kernel
theorem dX12_init_283 : decode cX12_init 283 = .ok (.aload_n 0, 1) := by decide +kernel
theorem dX12_init_284 : decode cX12_init 284 = .ok (.bipush 6, 2) := by decide +kernel
theorem dX12_init_286 : decode cX12_init 286 = .ok (.newarray .int, 2) := by decide +kernel
theorem dX12_init_288 : decode cX12_init 288 = .ok (.putfield 117, 3) := by decide +kernel
theorem dX12_init_291 : decode cX12_init 291 = .ok (.aload_n 0, 1) := by decide +kernel
theorem dX12_init_292 : decode cX12_init 292 = .ok (.bipush 12, 2) := by decide +kernel
theorem dX12_init_294 : decode cX12_init 294 = .ok (.newarray .int, 2) := by decide +kernel
theorem dX12_init_296 : decode cX12_init 296 = .ok (.putfield 120, 3) := by decide +kernel
theorem dX12_init_299 : decode cX12_init 299 = .ok (.aload_n 0, 1) := by decide +kernel
theorem dX12_init_300 : decode cX12_init 300 = .ok (.bipush 12, 2) := by decide +kernel
theorem dX12_init_302 : decode cX12_init 302 = .ok (.newarray .int, 2) := by decide +kernel
theorem dX12_init_304 : decode cX12_init 304 = .ok (.putfield 123, 3) := by decide +kernel
theorem dX12_init_307 : decode cX12_init 307 = .ok (.aload_n 0, 1) := by decide +kernel
theorem dX12_init_308 : decode cX12_init 308 = .ok (.iconst (-1), 1) := by decide +kernel
theorem dX12_init_309 : decode cX12_init 309 = .ok (.putfield 126, 3) := by decide +kernel
theorem dX12_init_312 : decode cX12_init 312 = .ok (.aload_n 0, 1) := by decide +kernel
theorem dX12_init_313 : decode cX12_init 313 = .ok (.bipush 24, 2) := by decide +kernel
theorem dX12_init_315 : decode cX12_init 315 = .ok (.newarray .int, 2) := by decide +kernel
theorem dX12_init_317 : decode cX12_init 317 = .ok (.putfield 129, 3) := by decide +kernel
theorem dX12_init_320 : decode cX12_init 320 = .ok (.aload_n 0, 1) := by decide +kernel
theorem dX12_init_321 : decode cX12_init 321 = .ok (.bipush 24, 2) := by decide +kernel
theorem dX12_init_323 : decode cX12_init 323 = .ok (.newarray .int, 2) := by decide +kernel
theorem dX12_init_325 : decode cX12_init 325 = .ok (.putfield 132, 3) := by decide +kernel
theorem dX12_init_328 : decode cX12_init 328 = .ok (.aload_n 0, 1) := by decide +kernel
theorem dX12_init_329 : decode cX12_init 329 = .ok (.bipush 24, 2) := by decide +kernel
theorem dX12_init_331 : decode cX12_init 331 = .ok (.newarray .boolean, 2) := by decide +kernel
theorem dX12_init_333 : decode cX12_init 333 = .ok (.putfield 135, 3) := by decide +kernel
theorem dX12_init_336 : decode cX12_init 336 = .ok (.aload_n 0, 1) := by decide +kernel
theorem dX12_init_337 : decode cX12_init 337 = .ok (.bipush 24, 2) := by decide +kernel
theorem dX12_init_339 : decode cX12_init 339 = .ok (.newarray .int, 2) := by decide +kernel
theorem dX12_init_341 : decode cX12_init 341 = .ok (.putfield 139, 3) := by decide +kernel
theorem dX12_init_344 : decode cX12_init 344 = .ok (.aload_n 0, 1) := by decide +kernel
theorem dX12_init_345 : decode cX12_init 345 = .ok (.bipush 24, 2) := by decide +kernel
theorem dX12_init_347 : decode cX12_init 347 = .ok (.newarray .boolean, 2) := by decide +kernel
theorem dX12_init_349 : decode cX12_init 349 = .ok (.putfield 142, 3) := by decide +kernel
theorem dX12_init_352 : decode cX12_init 352 = .ok (.aload_n 0, 1) := by decide +kernel
theorem dX12_init_353 : decode cX12_init 353 = .ok (.sipush 1464, 3) := by decide +kernel
theorem dX12_init_356 : decode cX12_init 356 = .ok (.newarray .int, 2) := by decide +kernel
theorem dX12_init_358 : decode cX12_init 358 = .ok (.putfield 145, 3) := by decide +kernel
theorem dX12_init_361 : decode cX12_init 361 = .ok (.aload_n 0, 1) := by decide +kernel
theorem dX12_init_362 : decode cX12_init 362 = .ok (.invokevirtual 148, 3) := by decide +kernel
theorem dX12_init_365 : decode cX12_init 365 = .ok (.return_, 1) := by decide +kernel
theorem dX12_thrown_0 : decode cX12_thrown 0 = .ok (.aload_n 0, 1) := by decide +kernel
theorem dX12_thrown_1 : decode cX12_thrown 1 = .ok (.getfield 151, 3) := by decide +kernel
theorem dX12_thrown_4 : decode cX12_thrown 4 = .ok (.ireturn, 1) := by decide +kernel
theorem dX12_feed_0 : decode cX12_feed 0 = .ok (.aload_n 0, 1) := by decide +kernel
theorem dX12_feed_1 : decode cX12_feed 1 = .ok (.iconst 0, 1) := by decide +kernel
theorem dX12_feed_2 : decode cX12_feed 2 = .ok (.putfield 151, 3) := by decide +kernel
theorem dX12_feed_5 : decode cX12_feed 5 = .ok (.aload_n 0, 1) := by decide +kernel
theorem dX12_feed_6 : decode cX12_feed 6 = .ok (.getfield 154, 3) := by decide +kernel
theorem dX12_feed_9 : decode cX12_feed 9 = .ok (.sipush 680, 3) := by decide +kernel
theorem dX12_feed_12 : decode cX12_feed 12 = .ok (.if_icmp .le 5, 3) := by decide +kernel
theorem dX12_feed_15 : decode cX12_feed 15 = .ok (.iconst (-1), 1) := by decide +kernel
theorem dX12_feed_16 : decode cX12_feed 16 = .ok (.ireturn, 1) := by decide +kernel
theorem dX12_feed_17 : decode cX12_feed 17 = .ok (.iconst 0, 1) := by decide +kernel
theorem dX12_feed_18 : decode cX12_feed 18 = .ok (.istore 6, 2) := by decide +kernel
theorem dX12_feed_20 : decode cX12_feed 20 = .ok (.iload 6, 2) := by decide +kernel
theorem dX12_feed_22 : decode cX12_feed 22 = .ok (.bipush 20, 2) := by decide +kernel
theorem dX12_feed_24 : decode cX12_feed 24 = .ok (.if_icmp .ge 86, 3) := by decide +kernel
theorem dX12_feed_27 : decode cX12_feed 27 = .ok (.iload 6, 2) := by decide +kernel
theorem dX12_feed_29 : decode cX12_feed 29 = .ok (.iconst 4, 1) := by decide +kernel
theorem dX12_feed_30 : decode cX12_feed 30 = .ok (.if_icmp .ge 7, 3) := by decide +kernel
theorem dX12_feed_33 : decode cX12_feed 33 = .ok (.iload_n 1, 1) := by decide +kernel
theorem dX12_feed_34 : decode cX12_feed 34 = .ok (.goto 39, 3) := by decide +kernel
theorem dX12_feed_37 : decode cX12_feed 37 = .ok (.iload 6, 2) := by decide +kernel
theorem dX12_feed_39 : decode cX12_feed 39 = .ok (.bipush 8, 2) := by decide +kernel
theorem dX12_feed_41 : decode cX12_feed 41 = .ok (.if_icmp .ge 7, 3) := by decide +kernel
theorem dX12_feed_44 : decode cX12_feed 44 = .ok (.iload_n 2, 1) := by decide +kernel
theorem dX12_feed_45 : decode cX12_feed 45 = .ok (.goto 28, 3) := by decide +kernel
theorem dX12_feed_48 : decode cX12_feed 48 = .ok (.iload 6, 2) := by decide +kernel
theorem dX12_feed_50 : decode cX12_feed 50 = .ok (.bipush 12, 2) := by decide +kernel
theorem dX12_feed_52 : decode cX12_feed 52 = .ok (.if_icmp .ge 7, 3) := by decide +kernel
theorem dX12_feed_55 : decode cX12_feed 55 = .ok (.iload_n 3, 1) := by decide +kernel
theorem dX12_feed_56 : decode cX12_feed 56 = .ok (.goto 17, 3) := by decide +kernel
theorem dX12_feed_59 : decode cX12_feed 59 = .ok (.iload 6, 2) := by decide +kernel
theorem dX12_feed_61 : decode cX12_feed 61 = .ok (.bipush 16, 2) := by decide +kernel
theorem dX12_feed_63 : decode cX12_feed 63 = .ok (.if_icmp .ge 8, 3) := by decide +kernel
theorem dX12_feed_66 : decode cX12_feed 66 = .ok (.iload 4, 2) := by decide +kernel
theorem dX12_feed_68 : decode cX12_feed 68 = .ok (.goto 5, 3) := by decide +kernel
theorem dX12_feed_71 : decode cX12_feed 71 = .ok (.iload 5, 2) := by decide +kernel
theorem dX12_feed_73 : decode cX12_feed 73 = .ok (.istore 7, 2) := by decide +kernel
theorem dX12_feed_75 : decode cX12_feed 75 = .ok (.aload_n 0, 1) := by decide +kernel
theorem dX12_feed_76 : decode cX12_feed 76 = .ok (.getfield 7, 3) := by decide +kernel
theorem dX12_feed_79 : decode cX12_feed 79 = .ok (.aload_n 0, 1) := by decide +kernel
theorem dX12_feed_80 : decode cX12_feed 80 = .ok (.getfield 154, 3) := by decide +kernel
theorem dX12_feed_83 : decode cX12_feed 83 = .ok (.iload 6, 2) := by decide +kernel
theorem dX12_feed_85 : decode cX12_feed 85 = .ok (.iadd, 1) := by decide +kernel
theorem dX12_feed_86 : decode cX12_feed 86 = .ok (.iload 7, 2) := by decide +kernel
theorem dX12_feed_88 : decode cX12_feed 88 = .ok (.bipush 24, 2) := by decide +kernel
theorem dX12_feed_90 : decode cX12_feed 90 = .ok (.bipush 8, 2) := by decide +kernel
theorem dX12_feed_92 : decode cX12_feed 92 = .ok (.iload 6, 2) := by decide +kernel
theorem dX12_feed_94 : decode cX12_feed 94 = .ok (.iconst 4, 1) := by decide +kernel
theorem dX12_feed_95 : decode cX12_feed 95 = .ok (.irem, 1) := by decide +kernel
theorem dX12_feed_96 : decode cX12_feed 96 = .ok (.imul, 1) := by decide +kernel
theorem dX12_feed_97 : decode cX12_feed 97 = .ok (.isub, 1) := by decide +kernel
theorem dX12_feed_98 : decode cX12_feed 98 = .ok (.ishr, 1) := by decide +kernel
theorem dX12_feed_99 : decode cX12_feed 99 = .ok (.sipush 255, 3) := by decide +kernel
theorem dX12_feed_102 : decode cX12_feed 102 = .ok (.iand, 1) := by decide +kernel
theorem dX12_feed_103 : decode cX12_feed 103 = .ok (.iastore, 1) := by decide +kernel
theorem dX12_feed_104 : decode cX12_feed 104 = .ok (.iinc 6 1, 3) := by decide +kernel
theorem dX12_feed_107 : decode cX12_feed 107 = .ok (.goto (-87), 3) := by decide +kernel
theorem dX12_feed_110 : decode cX12_feed 110 = .ok (.aload_n 0, 1) := by decide +kernel
theorem dX12_feed_111 : decode cX12_feed 111 = .ok (.dup, 1) := by decide +kernel
theorem dX12_feed_112 : decode cX12_feed 112 = .ok (.getfield 154, 3) := by decide +kernel
theorem dX12_feed_115 : decode cX12_feed 115 = .ok (.bipush 20, 2) := by decide +kernel
theorem dX12_feed_117 : decode cX12_feed 117 = .ok (.iadd, 1) := by decide +kernel
theorem dX12_feed_118 : decode cX12_feed 118 = .ok (.putfield 154, 3) := by decide +kernel
theorem dX12_feed_121 : decode cX12_feed 121 = .ok (.aload_n 0, 1) := by decide +kernel
theorem dX12_feed_122 : decode cX12_feed 122 = .ok (.getfield 154, 3) := by decide +kernel
theorem dX12_feed_125 : decode cX12_feed 125 = .ok (.ireturn, 1) := by decide +kernel
theorem dX12_here_0 : decode cX12_here 0 = .ok (.aload_n 0, 1) := by decide +kernel
theorem dX12_here_1 : decode cX12_here 1 = .ok (.getfield 157, 3) := by decide +kernel
theorem dX12_here_4 : decode cX12_here 4 = .ok (.aload_n 0, 1) := by decide +kernel
theorem dX12_here_5 : decode cX12_here 5 = .ok (.getfield 160, 3) := by decide +kernel
theorem dX12_here_8 : decode cX12_here 8 = .ok (.if_icmp .ge 15, 3) := by decide +kernel
theorem dX12_here_11 : decode cX12_here 11 = .ok (.aload_n 0, 1) := by decide +kernel
theorem dX12_here_12 : decode cX12_here 12 = .ok (.getfield 7, 3) := by decide +kernel
theorem dX12_here_15 : decode cX12_here 15 = .ok (.aload_n 0, 1) := by decide +kernel
theorem dX12_here_16 : decode cX12_here 16 = .ok (.getfield 157, 3) := by decide +kernel
theorem dX12_here_19 : decode cX12_here 19 = .ok (.iaload, 1) := by decide +kernel
theorem dX12_here_20 : decode cX12_here 20 = .ok (.goto 4, 3) := by decide +kernel
theorem dX12_here_23 : decode cX12_here 23 = .ok (.iconst (-1), 1) := by decide +kernel
theorem dX12_here_24 : decode cX12_here 24 = .ok (.ireturn, 1) := by decide +kernel
theorem dX12_isSmall_0 : decode cX12_isSmall 0 = .ok (.iload_n 0, 1) := by decide +kernel
theorem dX12_isSmall_1 : decode cX12_isSmall 1 = .ok (.bipush 97, 2) := by decide +kernel
theorem dX12_isSmall_3 : decode cX12_isSmall 3 = .ok (.if_icmp .lt 13, 3) := by decide +kernel
theorem dX12_isSmall_6 : decode cX12_isSmall 6 = .ok (.iload_n 0, 1) := by decide +kernel
theorem dX12_isSmall_7 : decode cX12_isSmall 7 = .ok (.bipush 122, 2) := by decide +kernel
theorem dX12_isSmall_9 : decode cX12_isSmall 9 = .ok (.if_icmp .gt 7, 3) := by decide +kernel
theorem dX12_isSmall_12 : decode cX12_isSmall 12 = .ok (.iconst 1, 1) := by decide +kernel
theorem dX12_isSmall_13 : decode cX12_isSmall 13 = .ok (.goto 4, 3) := by decide +kernel
theorem dX12_isSmall_16 : decode cX12_isSmall 16 = .ok (.iconst 0, 1) := by decide +kernel
theorem dX12_isSmall_17 : decode cX12_isSmall 17 = .ok (.ireturn, 1) := by decide +kernel
theorem dX12_isDigit_0 : decode cX12_isDigit 0 = .ok (.iload_n 0, 1) := by decide +kernel
theorem dX12_isDigit_1 : decode cX12_isDigit 1 = .ok (.bipush 48, 2) := by decide +kernel
theorem dX12_isDigit_3 : decode cX12_isDigit 3 = .ok (.if_icmp .lt 13, 3) := by decide +kernel
theorem dX12_isDigit_6 : decode cX12_isDigit 6 = .ok (.iload_n 0, 1) := by decide +kernel
theorem dX12_isDigit_7 : decode cX12_isDigit 7 = .ok (.bipush 57, 2) := by decide +kernel
theorem dX12_isDigit_9 : decode cX12_isDigit 9 = .ok (.if_icmp .gt 7, 3) := by decide +kernel
theorem dX12_isDigit_12 : decode cX12_isDigit 12 = .ok (.iconst 1, 1) := by decide +kernel
theorem dX12_isDigit_13 : decode cX12_isDigit 13 = .ok (.goto 4, 3) := by decide +kernel
theorem dX12_isDigit_16 : decode cX12_isDigit 16 = .ok (.iconst 0, 1) := by decide +kernel
theorem dX12_isDigit_17 : decode cX12_isDigit 17 = .ok (.ireturn, 1) := by decide +kernel
theorem dX12_token_0 : decode cX12_token 0 = .ok (.aload_n 0, 1) := by decide +kernel
theorem dX12_token_1 : decode cX12_token 1 = .ok (.invokevirtual 163, 3) := by decide +kernel
theorem dX12_token_4 : decode cX12_token 4 = .ok (.bipush 10, 2) := by decide +kernel
theorem dX12_token_6 : decode cX12_token 6 = .ok (.if_icmp .eq 12, 3) := by decide +kernel
theorem dX12_token_9 : decode cX12_token 9 = .ok (.aload_n 0, 1) := by decide +kernel
theorem dX12_token_10 : decode cX12_token 10 = .ok (.invokevirtual 163, 3) := by decide +kernel
theorem dX12_token_13 : decode cX12_token 13 = .ok (.bipush 32, 2) := by decide +kernel
theorem dX12_token_15 : decode cX12_token 15 = .ok (.if_icmp .ne 16, 3) := by decide +kernel
theorem dX12_token_18 : decode cX12_token 18 = .ok (.aload_n 0, 1) := by decide +kernel
theorem dX12_token_19 : decode cX12_token 19 = .ok (.dup, 1) := by decide +kernel
theorem dX12_token_20 : decode cX12_token 20 = .ok (.getfield 157, 3) := by decide +kernel
theorem dX12_token_23 : decode cX12_token 23 = .ok (.iconst 1, 1) := by decide +kernel
theorem dX12_token_24 : decode cX12_token 24 = .ok (.iadd, 1) := by decide +kernel
theorem dX12_token_25 : decode cX12_token 25 = .ok (.putfield 157, 3) := by decide +kernel
theorem dX12_token_28 : decode cX12_token 28 = .ok (.goto (-28), 3) := by decide +kernel
theorem dX12_token_31 : decode cX12_token 31 = .ok (.aload_n 0, 1) := by decide +kernel
theorem dX12_token_32 : decode cX12_token 32 = .ok (.aload_n 0, 1) := by decide +kernel
theorem dX12_token_33 : decode cX12_token 33 = .ok (.getfield 157, 3) := by decide +kernel
theorem dX12_token_36 : decode cX12_token 36 = .ok (.putfield 167, 3) := by decide +kernel
theorem dX12_token_39 : decode cX12_token 39 = .ok (.aload_n 0, 1) := by decide +kernel
theorem dX12_token_40 : decode cX12_token 40 = .ok (.invokevirtual 163, 3) := by decide +kernel
theorem dX12_token_43 : decode cX12_token 43 = .ok (.istore_n 1, 1) := by decide +kernel
theorem dX12_token_44 : decode cX12_token 44 = .ok (.iload_n 1, 1) := by decide +kernel
theorem dX12_token_45 : decode cX12_token 45 = .ok (.iconst (-1), 1) := by decide +kernel
theorem dX12_token_46 : decode cX12_token 46 = .ok (.if_icmp .ne 11, 3) := by decide +kernel
theorem dX12_token_49 : decode cX12_token 49 = .ok (.aload_n 0, 1) := by decide +kernel
theorem dX12_token_50 : decode cX12_token 50 = .ok (.iconst 4, 1) := by decide +kernel
theorem dX12_token_51 : decode cX12_token 51 = .ok (.putfield 170, 3) := by decide +kernel
theorem dX12_token_54 : decode cX12_token 54 = .ok (.goto 171, 3) := by decide +kernel
theorem dX12_token_57 : decode cX12_token 57 = .ok (.iload_n 1, 1) := by decide +kernel
theorem dX12_token_58 : decode cX12_token 58 = .ok (.invokestatic 173, 3) := by decide +kernel
theorem dX12_token_61 : decode cX12_token 61 = .ok (.ifCond .eq 84, 3) := by decide +kernel
theorem dX12_token_64 : decode cX12_token 64 = .ok (.aload_n 0, 1) := by decide +kernel
theorem dX12_token_65 : decode cX12_token 65 = .ok (.invokevirtual 163, 3) := by decide +kernel
theorem dX12_token_68 : decode cX12_token 68 = .ok (.invokestatic 173, 3) := by decide +kernel
theorem dX12_token_71 : decode cX12_token 71 = .ok (.ifCond .eq 16, 3) := by decide +kernel
theorem dX12_token_74 : decode cX12_token 74 = .ok (.aload_n 0, 1) := by decide +kernel
theorem dX12_token_75 : decode cX12_token 75 = .ok (.dup, 1) := by decide +kernel
theorem dX12_token_76 : decode cX12_token 76 = .ok (.getfield 157, 3) := by decide +kernel
theorem dX12_token_79 : decode cX12_token 79 = .ok (.iconst 1, 1) := by decide +kernel
theorem dX12_token_80 : decode cX12_token 80 = .ok (.iadd, 1) := by decide +kernel
theorem dX12_token_81 : decode cX12_token 81 = .ok (.putfield 157, 3) := by decide +kernel
theorem dX12_token_84 : decode cX12_token 84 = .ok (.goto (-20), 3) := by decide +kernel
theorem dX12_token_87 : decode cX12_token 87 = .ok (.aload_n 0, 1) := by decide +kernel
theorem dX12_token_88 : decode cX12_token 88 = .ok (.aload_n 0, 1) := by decide +kernel
theorem dX12_token_89 : decode cX12_token 89 = .ok (.invokevirtual 177, 3) := by decide +kernel
theorem dX12_token_92 : decode cX12_token 92 = .ok (.putfield 180, 3) := by decide +kernel
theorem dX12_token_95 : decode cX12_token 95 = .ok (.aload_n 0, 1) := by decide +kernel
theorem dX12_token_96 : decode cX12_token 96 = .ok (.aload_n 0, 1) := by decide +kernel
theorem dX12_token_97 : decode cX12_token 97 = .ok (.getfield 180, 3) := by decide +kernel
theorem dX12_token_100 : decode cX12_token 100 = .ok (.iconst (-1), 1) := by decide +kernel
theorem dX12_token_101 : decode cX12_token 101 = .ok (.if_icmp .eq 7, 3) := by decide +kernel
theorem dX12_token_104 : decode cX12_token 104 = .ok (.iconst 0, 1) := by decide +kernel
theorem dX12_token_105 : decode cX12_token 105 = .ok (.goto 22, 3) := by decide +kernel
theorem dX12_token_108 : decode cX12_token 108 = .ok (.aload_n 0, 1) := by decide +kernel
theorem dX12_token_109 : decode cX12_token 109 = .ok (.getfield 157, 3) := by decide +kernel
theorem dX12_token_112 : decode cX12_token 112 = .ok (.aload_n 0, 1) := by decide +kernel
theorem dX12_token_113 : decode cX12_token 113 = .ok (.getfield 167, 3) := by decide +kernel
theorem dX12_token_116 : decode cX12_token 116 = .ok (.isub, 1) := by decide +kernel
theorem dX12_token_117 : decode cX12_token 117 = .ok (.bipush 6, 2) := by decide +kernel
theorem dX12_token_119 : decode cX12_token 119 = .ok (.if_icmp .le 7, 3) := by decide +kernel
theorem dX12_token_122 : decode cX12_token 122 = .ok (.iconst 5, 1) := by decide +kernel
theorem dX12_token_123 : decode cX12_token 123 = .ok (.goto 4, 3) := by decide +kernel
theorem dX12_token_126 : decode cX12_token 126 = .ok (.iconst 1, 1) := by decide +kernel
theorem dX12_token_127 : decode cX12_token 127 = .ok (.putfield 170, 3) := by decide +kernel
theorem dX12_token_130 : decode cX12_token 130 = .ok (.aload_n 0, 1) := by decide +kernel
theorem dX12_token_131 : decode cX12_token 131 = .ok (.getfield 170, 3) := by decide +kernel
theorem dX12_token_134 : decode cX12_token 134 = .ok (.iconst 1, 1) := by decide +kernel
theorem dX12_token_135 : decode cX12_token 135 = .ok (.if_icmp .ne 90, 3) := by decide +kernel
theorem dX12_token_138 : decode cX12_token 138 = .ok (.aload_n 0, 1) := by decide +kernel
theorem dX12_token_139 : decode cX12_token 139 = .ok (.invokevirtual 183, 3) := by decide +kernel
theorem dX12_token_142 : decode cX12_token 142 = .ok (.goto 83, 3) := by decide +kernel
theorem dX12_token_145 : decode cX12_token 145 = .ok (.iload_n 1, 1) := by decide +kernel
theorem dX12_token_146 : decode cX12_token 146 = .ok (.invokestatic 186, 3) := by decide +kernel
theorem dX12_token_149 : decode cX12_token 149 = .ok (.ifCond .eq 71, 3) := by decide +kernel
theorem dX12_token_152 : decode cX12_token 152 = .ok (.aload_n 0, 1) := by decide +kernel
theorem dX12_token_153 : decode cX12_token 153 = .ok (.iconst 2, 1) := by decide +kernel
theorem dX12_token_154 : decode cX12_token 154 = .ok (.putfield 170, 3) := by decide +kernel
theorem dX12_token_157 : decode cX12_token 157 = .ok (.aload_n 0, 1) := by decide +kernel
theorem dX12_token_158 : decode cX12_token 158 = .ok (.iconst 0, 1) := by decide +kernel
theorem dX12_token_159 : decode cX12_token 159 = .ok (.putfield 180, 3) := by decide +kernel
theorem dX12_token_162 : decode cX12_token 162 = .ok (.aload_n 0, 1) := by decide +kernel
theorem dX12_token_163 : decode cX12_token 163 = .ok (.invokevirtual 163, 3) := by decide +kernel
theorem dX12_token_166 : decode cX12_token 166 = .ok (.invokestatic 186, 3) := by decide +kernel
theorem dX12_token_169 : decode cX12_token 169 = .ok (.ifCond .eq 56, 3) := by decide +kernel
theorem dX12_token_172 : decode cX12_token 172 = .ok (.aload_n 0, 1) := by decide +kernel
theorem dX12_token_173 : decode cX12_token 173 = .ok (.aload_n 0, 1) := by decide +kernel
theorem dX12_token_174 : decode cX12_token 174 = .ok (.getfield 180, 3) := by decide +kernel
theorem dX12_token_177 : decode cX12_token 177 = .ok (.ldc 189, 2) := by decide +kernel
theorem dX12_token_179 : decode cX12_token 179 = .ok (.if_icmp .le 10, 3) := by decide +kernel
theorem dX12_token_182 : decode cX12_token 182 = .ok (.aload_n 0, 1) := by decide +kernel
theorem dX12_token_183 : decode cX12_token 183 = .ok (.getfield 180, 3) := by decide +kernel
theorem dX12_token_186 : decode cX12_token 186 = .ok (.goto 18, 3) := by decide +kernel
theorem dX12_token_189 : decode cX12_token 189 = .ok (.bipush 10, 2) := by decide +kernel
theorem dX12_token_191 : decode cX12_token 191 = .ok (.aload_n 0, 1) := by decide +kernel
theorem dX12_token_192 : decode cX12_token 192 = .ok (.getfield 180, 3) := by decide +kernel
theorem dX12_token_195 : decode cX12_token 195 = .ok (.imul, 1) := by decide +kernel
theorem dX12_token_196 : decode cX12_token 196 = .ok (.aload_n 0, 1) := by decide +kernel
theorem dX12_token_197 : decode cX12_token 197 = .ok (.invokevirtual 163, 3) := by decide +kernel
theorem dX12_token_200 : decode cX12_token 200 = .ok (.iadd, 1) := by decide +kernel
theorem dX12_token_201 : decode cX12_token 201 = .ok (.bipush 48, 2) := by decide +kernel
theorem dX12_token_203 : decode cX12_token 203 = .ok (.isub, 1) := by decide +kernel
theorem dX12_token_204 : decode cX12_token 204 = .ok (.putfield 180, 3) := by decide +kernel
theorem dX12_token_207 : decode cX12_token 207 = .ok (.aload_n 0, 1) := by decide +kernel
theorem dX12_token_208 : decode cX12_token 208 = .ok (.dup, 1) := by decide +kernel
theorem dX12_token_209 : decode cX12_token 209 = .ok (.getfield 157, 3) := by decide +kernel
theorem dX12_token_212 : decode cX12_token 212 = .ok (.iconst 1, 1) := by decide +kernel
theorem dX12_token_213 : decode cX12_token 213 = .ok (.iadd, 1) := by decide +kernel
theorem dX12_token_214 : decode cX12_token 214 = .ok (.putfield 157, 3) := by decide +kernel
theorem dX12_token_217 : decode cX12_token 217 = .ok (.goto (-55), 3) := by decide +kernel
theorem dX12_token_220 : decode cX12_token 220 = .ok (.aload_n 0, 1) := by decide +kernel
theorem dX12_token_221 : decode cX12_token 221 = .ok (.iload_n 1, 1) := by decide +kernel
theorem dX12_token_222 : decode cX12_token 222 = .ok (.invokevirtual 190, 3) := by decide +kernel
theorem dX12_token_225 : decode cX12_token 225 = .ok (.return_, 1) := by decide +kernel
theorem dX12_sign_0 : decode cX12_sign 0 = .ok (.aload_n 0, 1) := by decide +kernel
theorem dX12_sign_1 : decode cX12_sign 1 = .ok (.dup, 1) := by decide +kernel
theorem dX12_sign_2 : decode cX12_sign 2 = .ok (.getfield 157, 3) := by decide +kernel
theorem dX12_sign_5 : decode cX12_sign 5 = .ok (.iconst 1, 1) := by decide +kernel
theorem dX12_sign_6 : decode cX12_sign 6 = .ok (.iadd, 1) := by decide +kernel
theorem dX12_sign_7 : decode cX12_sign 7 = .ok (.putfield 157, 3) := by decide +kernel
theorem dX12_sign_10 : decode cX12_sign 10 = .ok (.aload_n 0, 1) := by decide +kernel
theorem dX12_sign_11 : decode cX12_sign 11 = .ok (.iload_n 1, 1) := by decide +kernel
theorem dX12_sign_12 : decode cX12_sign 12 = .ok (.bipush 59, 2) := by decide +kernel
theorem dX12_sign_14 : decode cX12_sign 14 = .ok (.if_icmp .eq 57, 3) := by decide +kernel
theorem dX12_sign_17 : decode cX12_sign 17 = .ok (.iload_n 1, 1) := by decide +kernel
theorem dX12_sign_18 : decode cX12_sign 18 = .ok (.bipush 40, 2) := by decide +kernel
theorem dX12_sign_20 : decode cX12_sign 20 = .ok (.if_icmp .eq 51, 3) := by decide +kernel
theorem dX12_sign_23 : decode cX12_sign 23 = .ok (.iload_n 1, 1) := by decide +kernel
theorem dX12_sign_24 : decode cX12_sign 24 = .ok (.bipush 41, 2) := by decide +kernel
theorem dX12_sign_26 : decode cX12_sign 26 = .ok (.if_icmp .eq 45, 3) := by decide +kernel
theorem dX12_sign_29 : decode cX12_sign 29 = .ok (.iload_n 1, 1) := by decide +kernel
theorem dX12_sign_30 : decode cX12_sign 30 = .ok (.bipush 43, 2) := by decide +kernel
theorem dX12_sign_32 : decode cX12_sign 32 = .ok (.if_icmp .eq 39, 3) := by decide +kernel
theorem dX12_sign_35 : decode cX12_sign 35 = .ok (.iload_n 1, 1) := by decide +kernel
theorem dX12_sign_36 : decode cX12_sign 36 = .ok (.bipush 45, 2) := by decide +kernel
theorem dX12_sign_38 : decode cX12_sign 38 = .ok (.if_icmp .eq 33, 3) := by decide +kernel
theorem dX12_sign_41 : decode cX12_sign 41 = .ok (.iload_n 1, 1) := by decide +kernel
theorem dX12_sign_42 : decode cX12_sign 42 = .ok (.bipush 42, 2) := by decide +kernel
theorem dX12_sign_44 : decode cX12_sign 44 = .ok (.if_icmp .eq 27, 3) := by decide +kernel
theorem dX12_sign_47 : decode cX12_sign 47 = .ok (.iload_n 1, 1) := by decide +kernel
theorem dX12_sign_48 : decode cX12_sign 48 = .ok (.bipush 47, 2) := by decide +kernel
theorem dX12_sign_50 : decode cX12_sign 50 = .ok (.if_icmp .eq 21, 3) := by decide +kernel
theorem dX12_sign_53 : decode cX12_sign 53 = .ok (.iload_n 1, 1) := by decide +kernel
theorem dX12_sign_54 : decode cX12_sign 54 = .ok (.bipush 60, 2) := by decide +kernel
theorem dX12_sign_56 : decode cX12_sign 56 = .ok (.if_icmp .eq 15, 3) := by decide +kernel
theorem dX12_sign_59 : decode cX12_sign 59 = .ok (.iload_n 1, 1) := by decide +kernel
theorem dX12_sign_60 : decode cX12_sign 60 = .ok (.bipush 61, 2) := by decide +kernel
theorem dX12_sign_62 : decode cX12_sign 62 = .ok (.if_icmp .eq 9, 3) := by decide +kernel
theorem dX12_sign_65 : decode cX12_sign 65 = .ok (.iload_n 1, 1) := by decide +kernel
theorem dX12_sign_66 : decode cX12_sign 66 = .ok (.bipush 62, 2) := by decide +kernel
theorem dX12_sign_68 : decode cX12_sign 68 = .ok (.if_icmp .ne 7, 3) := by decide +kernel
theorem dX12_sign_71 : decode cX12_sign 71 = .ok (.iconst 3, 1) := by decide +kernel
theorem dX12_sign_72 : decode cX12_sign 72 = .ok (.goto 4, 3) := by decide +kernel
theorem dX12_sign_75 : decode cX12_sign 75 = .ok (.iconst 5, 1) := by decide +kernel
theorem dX12_sign_76 : decode cX12_sign 76 = .ok (.putfield 170, 3) := by decide +kernel
theorem dX12_sign_79 : decode cX12_sign 79 = .ok (.aload_n 0, 1) := by decide +kernel
theorem dX12_sign_80 : decode cX12_sign 80 = .ok (.iload_n 1, 1) := by decide +kernel
theorem dX12_sign_81 : decode cX12_sign 81 = .ok (.putfield 180, 3) := by decide +kernel
theorem dX12_sign_84 : decode cX12_sign 84 = .ok (.iload_n 1, 1) := by decide +kernel
theorem dX12_sign_85 : decode cX12_sign 85 = .ok (.bipush 60, 2) := by decide +kernel
theorem dX12_sign_87 : decode cX12_sign 87 = .ok (.if_icmp .ne 19, 3) := by decide +kernel
theorem dX12_sign_90 : decode cX12_sign 90 = .ok (.aload_n 0, 1) := by decide +kernel
theorem dX12_sign_91 : decode cX12_sign 91 = .ok (.invokevirtual 163, 3) := by decide +kernel
theorem dX12_sign_94 : decode cX12_sign 94 = .ok (.bipush 61, 2) := by decide +kernel
theorem dX12_sign_96 : decode cX12_sign 96 = .ok (.if_icmp .ne 10, 3) := by decide +kernel
theorem dX12_sign_99 : decode cX12_sign 99 = .ok (.aload_n 0, 1) := by decide +kernel
theorem dX12_sign_100 : decode cX12_sign 100 = .ok (.sipush 256, 3) := by decide +kernel
theorem dX12_sign_103 : decode cX12_sign 103 = .ok (.putfield 180, 3) := by decide +kernel
theorem dX12_sign_106 : decode cX12_sign 106 = .ok (.iload_n 1, 1) := by decide +kernel
theorem dX12_sign_107 : decode cX12_sign 107 = .ok (.bipush 60, 2) := by decide +kernel
theorem dX12_sign_109 : decode cX12_sign 109 = .ok (.if_icmp .ne 19, 3) := by decide +kernel
theorem dX12_sign_112 : decode cX12_sign 112 = .ok (.aload_n 0, 1) := by decide +kernel
theorem dX12_sign_113 : decode cX12_sign 113 = .ok (.invokevirtual 163, 3) := by decide +kernel
theorem dX12_sign_116 : decode cX12_sign 116 = .ok (.bipush 62, 2) := by decide +kernel
theorem dX12_sign_118 : decode cX12_sign 118 = .ok (.if_icmp .ne 10, 3) := by decide +kernel
theorem dX12_sign_121 : decode cX12_sign 121 = .ok (.aload_n 0, 1) := by decide +kernel
theorem dX12_sign_122 : decode cX12_sign 122 = .ok (.sipush 257, 3) := by decide +kernel
theorem dX12_sign_125 : decode cX12_sign 125 = .ok (.putfield 180, 3) := by decide +kernel
theorem dX12_sign_128 : decode cX12_sign 128 = .ok (.iload_n 1, 1) := by decide +kernel
theorem dX12_sign_129 : decode cX12_sign 129 = .ok (.bipush 62, 2) := by decide +kernel
theorem dX12_sign_131 : decode cX12_sign 131 = .ok (.if_icmp .ne 19, 3) := by decide +kernel
theorem dX12_sign_134 : decode cX12_sign 134 = .ok (.aload_n 0, 1) := by decide +kernel
theorem dX12_sign_135 : decode cX12_sign 135 = .ok (.invokevirtual 163, 3) := by decide +kernel
theorem dX12_sign_138 : decode cX12_sign 138 = .ok (.bipush 61, 2) := by decide +kernel
theorem dX12_sign_140 : decode cX12_sign 140 = .ok (.if_icmp .ne 10, 3) := by decide +kernel
theorem dX12_sign_143 : decode cX12_sign 143 = .ok (.aload_n 0, 1) := by decide +kernel
theorem dX12_sign_144 : decode cX12_sign 144 = .ok (.sipush 258, 3) := by decide +kernel
theorem dX12_sign_147 : decode cX12_sign 147 = .ok (.putfield 180, 3) := by decide +kernel
theorem dX12_sign_150 : decode cX12_sign 150 = .ok (.aload_n 0, 1) := by decide +kernel
theorem dX12_sign_151 : decode cX12_sign 151 = .ok (.getfield 180, 3) := by decide +kernel
theorem dX12_sign_154 : decode cX12_sign 154 = .ok (.sipush 256, 3) := by decide +kernel
theorem dX12_sign_157 : decode cX12_sign 157 = .ok (.if_icmp .lt 13, 3) := by decide +kernel
theorem dX12_sign_160 : decode cX12_sign 160 = .ok (.aload_n 0, 1) := by decide +kernel
theorem dX12_sign_161 : decode cX12_sign 161 = .ok (.dup, 1) := by decide +kernel
theorem dX12_sign_162 : decode cX12_sign 162 = .ok (.getfield 157, 3) := by decide +kernel
theorem dX12_sign_165 : decode cX12_sign 165 = .ok (.iconst 1, 1) := by decide +kernel
theorem dX12_sign_166 : decode cX12_sign 166 = .ok (.iadd, 1) := by decide +kernel
theorem dX12_sign_167 : decode cX12_sign 167 = .ok (.putfield 157, 3) := by decide +kernel
theorem dX12_sign_170 : decode cX12_sign 170 = .ok (.return_, 1) := by decide +kernel
theorem dX12_word_0 : decode cX12_word 0 = .ok (.iconst 0, 1) := by decide +kernel
theorem dX12_word_1 : decode cX12_word 1 = .ok (.istore_n 1, 1) := by decide +kernel
theorem dX12_word_2 : decode cX12_word 2 = .ok (.iconst 0, 1) := by decide +kernel
theorem dX12_word_3 : decode cX12_word 3 = .ok (.istore_n 2, 1) := by decide +kernel
theorem dX12_word_4 : decode cX12_word 4 = .ok (.iload_n 2, 1) := by decide +kernel
theorem dX12_word_5 : decode cX12_word 5 = .ok (.ldc 194, 2) := by decide +kernel
theorem dX12_word_7 : decode cX12_word 7 = .ok (.invokevirtual 196, 3) := by decide +kernel
theorem dX12_word_10 : decode cX12_word 10 = .ok (.if_icmp .ge 113, 3) := by decide +kernel
theorem dX12_word_13 : decode cX12_word 13 = .ok (.iconst 0, 1) := by decide +kernel
theorem dX12_word_14 : decode cX12_word 14 = .ok (.istore_n 3, 1) := by decide +kernel
theorem dX12_word_15 : decode cX12_word 15 = .ok (.ldc 194, 2) := by decide +kernel
theorem dX12_word_17 : decode cX12_word 17 = .ok (.iload_n 2, 1) := by decide +kernel
theorem dX12_word_18 : decode cX12_word 18 = .ok (.iload_n 3, 1) := by decide +kernel
theorem dX12_word_19 : decode cX12_word 19 = .ok (.iadd, 1) := by decide +kernel
theorem dX12_word_20 : decode cX12_word 20 = .ok (.invokevirtual 201, 3) := by decide +kernel
theorem dX12_word_23 : decode cX12_word 23 = .ok (.bipush 32, 2) := by decide +kernel
theorem dX12_word_25 : decode cX12_word 25 = .ok (.if_icmp .eq 44, 3) := by decide +kernel
theorem dX12_word_28 : decode cX12_word 28 = .ok (.aload_n 0, 1) := by decide +kernel
theorem dX12_word_29 : decode cX12_word 29 = .ok (.getfield 167, 3) := by decide +kernel
theorem dX12_word_32 : decode cX12_word 32 = .ok (.iload_n 3, 1) := by decide +kernel
theorem dX12_word_33 : decode cX12_word 33 = .ok (.iadd, 1) := by decide +kernel
theorem dX12_word_34 : decode cX12_word 34 = .ok (.aload_n 0, 1) := by decide +kernel
theorem dX12_word_35 : decode cX12_word 35 = .ok (.getfield 157, 3) := by decide +kernel
theorem dX12_word_38 : decode cX12_word 38 = .ok (.if_icmp .ge 31, 3) := by decide +kernel
theorem dX12_word_41 : decode cX12_word 41 = .ok (.aload_n 0, 1) := by decide +kernel
theorem dX12_word_42 : decode cX12_word 42 = .ok (.getfield 7, 3) := by decide +kernel
theorem dX12_word_45 : decode cX12_word 45 = .ok (.aload_n 0, 1) := by decide +kernel
theorem dX12_word_46 : decode cX12_word 46 = .ok (.getfield 167, 3) := by decide +kernel
theorem dX12_word_49 : decode cX12_word 49 = .ok (.iload_n 3, 1) := by decide +kernel
theorem dX12_word_50 : decode cX12_word 50 = .ok (.iadd, 1) := by decide +kernel
theorem dX12_word_51 : decode cX12_word 51 = .ok (.iaload, 1) := by decide +kernel
theorem dX12_word_52 : decode cX12_word 52 = .ok (.ldc 194, 2) := by decide +kernel
theorem dX12_word_54 : decode cX12_word 54 = .ok (.iload_n 2, 1) := by decide +kernel
theorem dX12_word_55 : decode cX12_word 55 = .ok (.iload_n 3, 1) := by decide +kernel
theorem dX12_word_56 : decode cX12_word 56 = .ok (.iadd, 1) := by decide +kernel
theorem dX12_word_57 : decode cX12_word 57 = .ok (.invokevirtual 201, 3) := by decide +kernel
theorem dX12_word_60 : decode cX12_word 60 = .ok (.if_icmp .ne 9, 3) := by decide +kernel
theorem dX12_word_63 : decode cX12_word 63 = .ok (.iinc 3 1, 3) := by decide +kernel
theorem dX12_word_66 : decode cX12_word 66 = .ok (.goto (-51), 3) := by decide +kernel
theorem dX12_word_69 : decode cX12_word 69 = .ok (.ldc 194, 2) := by decide +kernel
theorem dX12_word_71 : decode cX12_word 71 = .ok (.iload_n 2, 1) := by decide +kernel
theorem dX12_word_72 : decode cX12_word 72 = .ok (.iload_n 3, 1) := by decide +kernel
theorem dX12_word_73 : decode cX12_word 73 = .ok (.iadd, 1) := by decide +kernel
theorem dX12_word_74 : decode cX12_word 74 = .ok (.invokevirtual 201, 3) := by decide +kernel
theorem dX12_word_77 : decode cX12_word 77 = .ok (.bipush 32, 2) := by decide +kernel
theorem dX12_word_79 : decode cX12_word 79 = .ok (.if_icmp .ne 18, 3) := by decide +kernel
theorem dX12_word_82 : decode cX12_word 82 = .ok (.aload_n 0, 1) := by decide +kernel
theorem dX12_word_83 : decode cX12_word 83 = .ok (.getfield 167, 3) := by decide +kernel
theorem dX12_word_86 : decode cX12_word 86 = .ok (.iload_n 3, 1) := by decide +kernel
theorem dX12_word_87 : decode cX12_word 87 = .ok (.iadd, 1) := by decide +kernel
theorem dX12_word_88 : decode cX12_word 88 = .ok (.aload_n 0, 1) := by decide +kernel
theorem dX12_word_89 : decode cX12_word 89 = .ok (.getfield 157, 3) := by decide +kernel
theorem dX12_word_92 : decode cX12_word 92 = .ok (.if_icmp .ne 5, 3) := by decide +kernel
theorem dX12_word_95 : decode cX12_word 95 = .ok (.iload_n 1, 1) := by decide +kernel
theorem dX12_word_96 : decode cX12_word 96 = .ok (.ireturn, 1) := by decide +kernel
theorem dX12_word_97 : decode cX12_word 97 = .ok (.ldc 194, 2) := by decide +kernel
theorem dX12_word_99 : decode cX12_word 99 = .ok (.iload_n 2, 1) := by decide +kernel
theorem dX12_word_100 : decode cX12_word 100 = .ok (.invokevirtual 201, 3) := by decide +kernel
theorem dX12_word_103 : decode cX12_word 103 = .ok (.bipush 32, 2) := by decide +kernel
theorem dX12_word_105 : decode cX12_word 105 = .ok (.if_icmp .eq 9, 3) := by decide +kernel
theorem dX12_word_108 : decode cX12_word 108 = .ok (.iinc 2 1, 3) := by decide +kernel
theorem dX12_word_111 : decode cX12_word 111 = .ok (.goto (-14), 3) := by decide +kernel
theorem dX12_word_114 : decode cX12_word 114 = .ok (.iinc 2 1, 3) := by decide +kernel
theorem dX12_word_117 : decode cX12_word 117 = .ok (.iinc 1 1, 3) := by decide +kernel
theorem dX12_word_120 : decode cX12_word 120 = .ok (.goto (-116), 3) := by decide +kernel
theorem dX12_word_123 : decode cX12_word 123 = .ok (.iconst (-1), 1) := by decide +kernel
theorem dX12_word_124 : decode cX12_word 124 = .ok (.ireturn, 1) := by decide +kernel
theorem dX12_name_0 : decode cX12_name 0 = .ok (.aload_n 0, 1) := by decide +kernel
theorem dX12_name_1 : decode cX12_name 1 = .ok (.iconst 0, 1) := by decide +kernel
theorem dX12_name_2 : decode cX12_name 2 = .ok (.putfield 180, 3) := by decide +kernel
theorem dX12_name_5 : decode cX12_name 5 = .ok (.iconst 0, 1) := by decide +kernel
theorem dX12_name_6 : decode cX12_name 6 = .ok (.istore_n 1, 1) := by decide +kernel
theorem dX12_name_7 : decode cX12_name 7 = .ok (.iload_n 1, 1) := by decide +kernel
theorem dX12_name_8 : decode cX12_name 8 = .ok (.bipush 6, 2) := by decide +kernel
theorem dX12_name_10 : decode cX12_name 10 = .ok (.if_icmp .ge 53, 3) := by decide +kernel
theorem dX12_name_13 : decode cX12_name 13 = .ok (.aload_n 0, 1) := by decide +kernel
theorem dX12_name_14 : decode cX12_name 14 = .ok (.aload_n 0, 1) := by decide +kernel
theorem dX12_name_15 : decode cX12_name 15 = .ok (.getfield 180, 3) := by decide +kernel
theorem dX12_name_18 : decode cX12_name 18 = .ok (.iconst 5, 1) := by decide +kernel
theorem dX12_name_19 : decode cX12_name 19 = .ok (.ishl, 1) := by decide +kernel
theorem dX12_name_20 : decode cX12_name 20 = .ok (.aload_n 0, 1) := by decide +kernel
theorem dX12_name_21 : decode cX12_name 21 = .ok (.getfield 167, 3) := by decide +kernel
theorem dX12_name_24 : decode cX12_name 24 = .ok (.iload_n 1, 1) := by decide +kernel
theorem dX12_name_25 : decode cX12_name 25 = .ok (.iadd, 1) := by decide +kernel
theorem dX12_name_26 : decode cX12_name 26 = .ok (.aload_n 0, 1) := by decide +kernel
theorem dX12_name_27 : decode cX12_name 27 = .ok (.getfield 157, 3) := by decide +kernel
theorem dX12_name_30 : decode cX12_name 30 = .ok (.if_icmp .ge 22, 3) := by decide +kernel
theorem dX12_name_33 : decode cX12_name 33 = .ok (.aload_n 0, 1) := by decide +kernel
theorem dX12_name_34 : decode cX12_name 34 = .ok (.getfield 7, 3) := by decide +kernel
theorem dX12_name_37 : decode cX12_name 37 = .ok (.aload_n 0, 1) := by decide +kernel
theorem dX12_name_38 : decode cX12_name 38 = .ok (.getfield 167, 3) := by decide +kernel
theorem dX12_name_41 : decode cX12_name 41 = .ok (.iload_n 1, 1) := by decide +kernel
theorem dX12_name_42 : decode cX12_name 42 = .ok (.iadd, 1) := by decide +kernel
theorem dX12_name_43 : decode cX12_name 43 = .ok (.iaload, 1) := by decide +kernel
theorem dX12_name_44 : decode cX12_name 44 = .ok (.bipush 97, 2) := by decide +kernel
theorem dX12_name_46 : decode cX12_name 46 = .ok (.isub, 1) := by decide +kernel
theorem dX12_name_47 : decode cX12_name 47 = .ok (.iconst 1, 1) := by decide +kernel
theorem dX12_name_48 : decode cX12_name 48 = .ok (.iadd, 1) := by decide +kernel
theorem dX12_name_49 : decode cX12_name 49 = .ok (.goto 4, 3) := by decide +kernel
theorem dX12_name_52 : decode cX12_name 52 = .ok (.iconst 0, 1) := by decide +kernel
theorem dX12_name_53 : decode cX12_name 53 = .ok (.ior, 1) := by decide +kernel
theorem dX12_name_54 : decode cX12_name 54 = .ok (.putfield 180, 3) := by decide +kernel
theorem dX12_name_57 : decode cX12_name 57 = .ok (.iinc 1 1, 3) := by decide +kernel
theorem dX12_name_60 : decode cX12_name 60 = .ok (.goto (-53), 3) := by decide +kernel
theorem dX12_name_63 : decode cX12_name 63 = .ok (.return_, 1) := by decide +kernel
theorem dX12_wrong_0 : decode cX12_wrong 0 = .ok (.aload_n 0, 1) := by decide +kernel
theorem dX12_wrong_1 : decode cX12_wrong 1 = .ok (.getfield 205, 3) := by decide +kernel
theorem dX12_wrong_4 : decode cX12_wrong 4 = .ok (.ifCond .eq 4, 3) := by decide +kernel
theorem dX12_wrong_7 : decode cX12_wrong 7 = .ok (.return_, 1) := by decide +kernel
theorem dX12_wrong_8 : decode cX12_wrong 8 = .ok (.aload_n 0, 1) := by decide +kernel
theorem dX12_wrong_9 : decode cX12_wrong 9 = .ok (.iload_n 1, 1) := by decide +kernel
theorem dX12_wrong_10 : decode cX12_wrong 10 = .ok (.putfield 205, 3) := by decide +kernel
theorem dX12_wrong_13 : decode cX12_wrong 13 = .ok (.aload_n 0, 1) := by decide +kernel
theorem dX12_wrong_14 : decode cX12_wrong 14 = .ok (.aload_n 0, 1) := by decide +kernel
theorem dX12_wrong_15 : decode cX12_wrong 15 = .ok (.getfield 167, 3) := by decide +kernel
theorem dX12_wrong_18 : decode cX12_wrong 18 = .ok (.putfield 208, 3) := by decide +kernel
theorem dX12_wrong_21 : decode cX12_wrong 21 = .ok (.return_, 1) := by decide +kernel
theorem dX12_isWord_0 : decode cX12_isWord 0 = .ok (.aload_n 0, 1) := by decide +kernel
theorem dX12_isWord_1 : decode cX12_isWord 1 = .ok (.getfield 205, 3) := by decide +kernel
theorem dX12_isWord_4 : decode cX12_isWord 4 = .ok (.ifCond .ne 22, 3) := by decide +kernel
theorem dX12_isWord_7 : decode cX12_isWord 7 = .ok (.aload_n 0, 1) := by decide +kernel
theorem dX12_isWord_8 : decode cX12_isWord 8 = .ok (.getfield 170, 3) := by decide +kernel
theorem dX12_isWord_11 : decode cX12_isWord 11 = .ok (.ifCond .ne 15, 3) := by decide +kernel
theorem dX12_isWord_14 : decode cX12_isWord 14 = .ok (.aload_n 0, 1) := by decide +kernel
theorem dX12_isWord_15 : decode cX12_isWord 15 = .ok (.getfield 180, 3) := by decide +kernel
theorem dX12_isWord_18 : decode cX12_isWord 18 = .ok (.iload_n 1, 1) := by decide +kernel
theorem dX12_isWord_19 : decode cX12_isWord 19 = .ok (.if_icmp .ne 7, 3) := by decide +kernel
theorem dX12_isWord_22 : decode cX12_isWord 22 = .ok (.iconst 1, 1) := by decide +kernel
theorem dX12_isWord_23 : decode cX12_isWord 23 = .ok (.goto 4, 3) := by decide +kernel
theorem dX12_isWord_26 : decode cX12_isWord 26 = .ok (.iconst 0, 1) := by decide +kernel
theorem dX12_isWord_27 : decode cX12_isWord 27 = .ok (.ireturn, 1) := by decide +kernel
theorem dX12_isSign_0 : decode cX12_isSign 0 = .ok (.aload_n 0, 1) := by decide +kernel
theorem dX12_isSign_1 : decode cX12_isSign 1 = .ok (.getfield 205, 3) := by decide +kernel
theorem dX12_isSign_4 : decode cX12_isSign 4 = .ok (.ifCond .ne 23, 3) := by decide +kernel
theorem dX12_isSign_7 : decode cX12_isSign 7 = .ok (.aload_n 0, 1) := by decide +kernel
theorem dX12_isSign_8 : decode cX12_isSign 8 = .ok (.getfield 170, 3) := by decide +kernel
theorem dX12_isSign_11 : decode cX12_isSign 11 = .ok (.iconst 3, 1) := by decide +kernel
theorem dX12_isSign_12 : decode cX12_isSign 12 = .ok (.if_icmp .ne 15, 3) := by decide +kernel
theorem dX12_isSign_15 : decode cX12_isSign 15 = .ok (.aload_n 0, 1) := by decide +kernel
theorem dX12_isSign_16 : decode cX12_isSign 16 = .ok (.getfield 180, 3) := by decide +kernel
theorem dX12_isSign_19 : decode cX12_isSign 19 = .ok (.iload_n 1, 1) := by decide +kernel
theorem dX12_isSign_20 : decode cX12_isSign 20 = .ok (.if_icmp .ne 7, 3) := by decide +kernel
theorem dX12_isSign_23 : decode cX12_isSign 23 = .ok (.iconst 1, 1) := by decide +kernel
theorem dX12_isSign_24 : decode cX12_isSign 24 = .ok (.goto 4, 3) := by decide +kernel
theorem dX12_isSign_27 : decode cX12_isSign 27 = .ok (.iconst 0, 1) := by decide +kernel
theorem dX12_isSign_28 : decode cX12_isSign 28 = .ok (.ireturn, 1) := by decide +kernel
theorem dX12_goOn_0 : decode cX12_goOn 0 = .ok (.aload_n 0, 1) := by decide +kernel
theorem dX12_goOn_1 : decode cX12_goOn 1 = .ok (.getfield 205, 3) := by decide +kernel
theorem dX12_goOn_4 : decode cX12_goOn 4 = .ok (.ifCond .ne 7, 3) := by decide +kernel
theorem dX12_goOn_7 : decode cX12_goOn 7 = .ok (.aload_n 0, 1) := by decide +kernel
theorem dX12_goOn_8 : decode cX12_goOn 8 = .ok (.invokevirtual 211, 3) := by decide +kernel
theorem dX12_goOn_11 : decode cX12_goOn 11 = .ok (.return_, 1) := by decide +kernel
theorem dX12_numeral_0 : decode cX12_numeral 0 = .ok (.aload_n 0, 1) := by decide +kernel
theorem dX12_numeral_1 : decode cX12_numeral 1 = .ok (.getfield 205, 3) := by decide +kernel
theorem dX12_numeral_4 : decode cX12_numeral 4 = .ok (.ifCond .eq 5, 3) := by decide +kernel
theorem dX12_numeral_7 : decode cX12_numeral 7 = .ok (.iload_n 1, 1) := by decide +kernel
theorem dX12_numeral_8 : decode cX12_numeral 8 = .ok (.ireturn, 1) := by decide +kernel
theorem dX12_numeral_9 : decode cX12_numeral 9 = .ok (.aload_n 0, 1) := by decide +kernel
theorem dX12_numeral_10 : decode cX12_numeral 10 = .ok (.getfield 170, 3) := by decide +kernel
theorem dX12_numeral_13 : decode cX12_numeral 13 = .ok (.iconst 2, 1) := by decide +kernel
theorem dX12_numeral_14 : decode cX12_numeral 14 = .ok (.if_icmp .eq 11, 3) := by decide +kernel
theorem dX12_numeral_17 : decode cX12_numeral 17 = .ok (.aload_n 0, 1) := by decide +kernel
theorem dX12_numeral_18 : decode cX12_numeral 18 = .ok (.iconst 1, 1) := by decide +kernel
theorem dX12_numeral_19 : decode cX12_numeral 19 = .ok (.invokevirtual 214, 3) := by decide +kernel
theorem dX12_numeral_22 : decode cX12_numeral 22 = .ok (.goto 24, 3) := by decide +kernel
theorem dX12_numeral_25 : decode cX12_numeral 25 = .ok (.aload_n 0, 1) := by decide +kernel
theorem dX12_numeral_26 : decode cX12_numeral 26 = .ok (.getfield 180, 3) := by decide +kernel
theorem dX12_numeral_29 : decode cX12_numeral 29 = .ok (.iload_n 1, 1) := by decide +kernel
theorem dX12_numeral_30 : decode cX12_numeral 30 = .ok (.if_icmp .lt 11, 3) := by decide +kernel
theorem dX12_numeral_33 : decode cX12_numeral 33 = .ok (.aload_n 0, 1) := by decide +kernel
theorem dX12_numeral_34 : decode cX12_numeral 34 = .ok (.getfield 180, 3) := by decide +kernel
theorem dX12_numeral_37 : decode cX12_numeral 37 = .ok (.iload_n 2, 1) := by decide +kernel
theorem dX12_numeral_38 : decode cX12_numeral 38 = .ok (.if_icmp .le 8, 3) := by decide +kernel
theorem dX12_numeral_41 : decode cX12_numeral 41 = .ok (.aload_n 0, 1) := by decide +kernel
theorem dX12_numeral_42 : decode cX12_numeral 42 = .ok (.iconst 2, 1) := by decide +kernel
theorem dX12_numeral_43 : decode cX12_numeral 43 = .ok (.invokevirtual 214, 3) := by decide +kernel
theorem dX12_numeral_46 : decode cX12_numeral 46 = .ok (.aload_n 0, 1) := by decide +kernel
theorem dX12_numeral_47 : decode cX12_numeral 47 = .ok (.getfield 205, 3) := by decide +kernel
theorem dX12_numeral_50 : decode cX12_numeral 50 = .ok (.ifCond .eq 5, 3) := by decide +kernel
theorem dX12_numeral_53 : decode cX12_numeral 53 = .ok (.iload_n 1, 1) := by decide +kernel
theorem dX12_numeral_54 : decode cX12_numeral 54 = .ok (.ireturn, 1) := by decide +kernel
theorem dX12_numeral_55 : decode cX12_numeral 55 = .ok (.aload_n 0, 1) := by decide +kernel
theorem dX12_numeral_56 : decode cX12_numeral 56 = .ok (.getfield 180, 3) := by decide +kernel
theorem dX12_numeral_59 : decode cX12_numeral 59 = .ok (.istore_n 3, 1) := by decide +kernel
theorem dX12_numeral_60 : decode cX12_numeral 60 = .ok (.aload_n 0, 1) := by decide +kernel
theorem dX12_numeral_61 : decode cX12_numeral 61 = .ok (.invokevirtual 211, 3) := by decide +kernel
theorem dX12_numeral_64 : decode cX12_numeral 64 = .ok (.iload_n 3, 1) := by decide +kernel
theorem dX12_numeral_65 : decode cX12_numeral 65 = .ok (.ireturn, 1) := by decide +kernel
theorem dX12_found_0 : decode cX12_found 0 = .ok (.iconst 0, 1) := by decide +kernel
theorem dX12_found_1 : decode cX12_found 1 = .ok (.istore 4, 2) := by decide +kernel
theorem dX12_found_3 : decode cX12_found 3 = .ok (.iload 4, 2) := by decide +kernel
theorem dX12_found_5 : decode cX12_found 5 = .ok (.iload_n 2, 1) := by decide +kernel
theorem dX12_found_6 : decode cX12_found 6 = .ok (.if_icmp .ge 22, 3) := by decide +kernel
theorem dX12_found_9 : decode cX12_found 9 = .ok (.aload_n 0, 1) := by decide +kernel
theorem dX12_found_10 : decode cX12_found 10 = .ok (.iload_n 1, 1) := by decide +kernel
theorem dX12_found_11 : decode cX12_found 11 = .ok (.iload 4, 2) := by decide +kernel
theorem dX12_found_13 : decode cX12_found 13 = .ok (.iadd, 1) := by decide +kernel
theorem dX12_found_14 : decode cX12_found 14 = .ok (.iaload, 1) := by decide +kernel
theorem dX12_found_15 : decode cX12_found 15 = .ok (.iload_n 3, 1) := by decide +kernel
theorem dX12_found_16 : decode cX12_found 16 = .ok (.if_icmp .ne 6, 3) := by decide +kernel
theorem dX12_found_19 : decode cX12_found 19 = .ok (.iload 4, 2) := by decide +kernel
theorem dX12_found_21 : decode cX12_found 21 = .ok (.ireturn, 1) := by decide +kernel
theorem dX12_found_22 : decode cX12_found 22 = .ok (.iinc 4 1, 3) := by decide +kernel
theorem dX12_found_25 : decode cX12_found 25 = .ok (.goto (-22), 3) := by decide +kernel
theorem dX12_found_28 : decode cX12_found 28 = .ok (.iconst (-1), 1) := by decide +kernel
theorem dX12_found_29 : decode cX12_found 29 = .ok (.ireturn, 1) := by decide +kernel
theorem dX12_fresh_0 : decode cX12_fresh 0 = .ok (.aload_n 0, 1) := by decide +kernel
theorem dX12_fresh_1 : decode cX12_fresh 1 = .ok (.getfield 205, 3) := by decide +kernel
theorem dX12_fresh_4 : decode cX12_fresh 4 = .ok (.ifCond .eq 5, 3) := by decide +kernel
theorem dX12_fresh_7 : decode cX12_fresh 7 = .ok (.iconst 0, 1) := by decide +kernel
theorem dX12_fresh_8 : decode cX12_fresh 8 = .ok (.ireturn, 1) := by decide +kernel
theorem dX12_fresh_9 : decode cX12_fresh 9 = .ok (.aload_n 0, 1) := by decide +kernel
theorem dX12_fresh_10 : decode cX12_fresh 10 = .ok (.getfield 170, 3) := by decide +kernel
theorem dX12_fresh_13 : decode cX12_fresh 13 = .ok (.iconst 1, 1) := by decide +kernel
theorem dX12_fresh_14 : decode cX12_fresh 14 = .ok (.if_icmp .eq 11, 3) := by decide +kernel
theorem dX12_fresh_17 : decode cX12_fresh 17 = .ok (.aload_n 0, 1) := by decide +kernel
theorem dX12_fresh_18 : decode cX12_fresh 18 = .ok (.iconst 1, 1) := by decide +kernel
theorem dX12_fresh_19 : decode cX12_fresh 19 = .ok (.invokevirtual 214, 3) := by decide +kernel
theorem dX12_fresh_22 : decode cX12_fresh 22 = .ok (.goto 22, 3) := by decide +kernel
theorem dX12_fresh_25 : decode cX12_fresh 25 = .ok (.aload_n 1, 1) := by decide +kernel
theorem dX12_fresh_26 : decode cX12_fresh 26 = .ok (.iload_n 2, 1) := by decide +kernel
theorem dX12_fresh_27 : decode cX12_fresh 27 = .ok (.iload_n 3, 1) := by decide +kernel
theorem dX12_fresh_28 : decode cX12_fresh 28 = .ok (.aload_n 0, 1) := by decide +kernel
theorem dX12_fresh_29 : decode cX12_fresh 29 = .ok (.getfield 180, 3) := by decide +kernel
theorem dX12_fresh_32 : decode cX12_fresh 32 = .ok (.invokestatic 217, 3) := by decide +kernel
theorem dX12_fresh_35 : decode cX12_fresh 35 = .ok (.iconst (-1), 1) := by decide +kernel
theorem dX12_fresh_36 : decode cX12_fresh 36 = .ok (.if_icmp .eq 8, 3) := by decide +kernel
theorem dX12_fresh_39 : decode cX12_fresh 39 = .ok (.aload_n 0, 1) := by decide +kernel
theorem dX12_fresh_40 : decode cX12_fresh 40 = .ok (.iconst 3, 1) := by decide +kernel
theorem dX12_fresh_41 : decode cX12_fresh 41 = .ok (.invokevirtual 214, 3) := by decide +kernel
theorem dX12_fresh_44 : decode cX12_fresh 44 = .ok (.aload_n 0, 1) := by decide +kernel
theorem dX12_fresh_45 : decode cX12_fresh 45 = .ok (.getfield 205, 3) := by decide +kernel
theorem dX12_fresh_48 : decode cX12_fresh 48 = .ok (.ifCond .eq 5, 3) := by decide +kernel
theorem dX12_fresh_51 : decode cX12_fresh 51 = .ok (.iconst 0, 1) := by decide +kernel
theorem dX12_fresh_52 : decode cX12_fresh 52 = .ok (.ireturn, 1) := by decide +kernel
theorem dX12_fresh_53 : decode cX12_fresh 53 = .ok (.aload_n 0, 1) := by decide +kernel
theorem dX12_fresh_54 : decode cX12_fresh 54 = .ok (.getfield 180, 3) := by decide +kernel
theorem dX12_fresh_57 : decode cX12_fresh 57 = .ok (.istore 4, 2) := by decide +kernel
theorem dX12_fresh_59 : decode cX12_fresh 59 = .ok (.aload_n 0, 1) := by decide +kernel
theorem dX12_fresh_60 : decode cX12_fresh 60 = .ok (.invokevirtual 211, 3) := by decide +kernel
theorem dX12_fresh_63 : decode cX12_fresh 63 = .ok (.iload 4, 2) := by decide +kernel
theorem dX12_fresh_65 : decode cX12_fresh 65 = .ok (.ireturn, 1) := by decide +kernel
theorem dX12_fresher_0 : decode cX12_fresher 0 = .ok (.aload_n 0, 1) := by decide +kernel
theorem dX12_fresher_1 : decode cX12_fresher 1 = .ok (.getfield 13, 3) := by decide +kernel
theorem dX12_fresher_4 : decode cX12_fresher 4 = .ok (.bipush 7, 2) := by decide +kernel
theorem dX12_fresher_6 : decode cX12_fresher 6 = .ok (.iload_n 1, 1) := by decide +kernel
theorem dX12_fresher_7 : decode cX12_fresher 7 = .ok (.iadd, 1) := by decide +kernel
theorem dX12_fresher_8 : decode cX12_fresher 8 = .ok (.iaload, 1) := by decide +kernel
theorem dX12_fresher_9 : decode cX12_fresher 9 = .ok (.ireturn, 1) := by decide +kernel
theorem dX12_reads_0 : decode cX12_reads 0 = .ok (.aload_n 0, 1) := by decide +kernel
theorem dX12_reads_1 : decode cX12_reads 1 = .ok (.getfield 13, 3) := by decide +kernel
theorem dX12_reads_4 : decode cX12_reads 4 = .ok (.bipush 7, 2) := by decide +kernel
theorem dX12_reads_6 : decode cX12_reads 6 = .ok (.iload_n 1, 1) := by decide +kernel
theorem dX12_reads_7 : decode cX12_reads 7 = .ok (.iadd, 1) := by decide +kernel
theorem dX12_reads_8 : decode cX12_reads 8 = .ok (.iload_n 2, 1) := by decide +kernel
theorem dX12_reads_9 : decode cX12_reads 9 = .ok (.iastore, 1) := by decide +kernel
theorem dX12_reads_10 : decode cX12_reads 10 = .ok (.return_, 1) := by decide +kernel
theorem dX12_tradeAhead_0 : decode cX12_tradeAhead 0 = .ok (.aload_n 0, 1) := by decide +kernel
theorem dX12_tradeAhead_1 : decode cX12_tradeAhead 1 = .ok (.getfield 205, 3) := by decide +kernel
theorem dX12_tradeAhead_4 : decode cX12_tradeAhead 4 = .ok (.ifCond .eq 5, 3) := by decide +kernel
theorem dX12_tradeAhead_7 : decode cX12_tradeAhead 7 = .ok (.iconst 0, 1) := by decide +kernel
theorem dX12_tradeAhead_8 : decode cX12_tradeAhead 8 = .ok (.ireturn, 1) := by decide +kernel
theorem dX12_tradeAhead_9 : decode cX12_tradeAhead 9 = .ok (.aload_n 0, 1) := by decide +kernel
theorem dX12_tradeAhead_10 : decode cX12_tradeAhead 10 = .ok (.getfield 170, 3) := by decide +kernel
theorem dX12_tradeAhead_13 : decode cX12_tradeAhead 13 = .ok (.iconst 1, 1) := by decide +kernel
theorem dX12_tradeAhead_14 : decode cX12_tradeAhead 14 = .ok (.if_icmp .eq 8, 3) := by decide +kernel
theorem dX12_tradeAhead_17 : decode cX12_tradeAhead 17 = .ok (.aload_n 0, 1) := by decide +kernel
theorem dX12_tradeAhead_18 : decode cX12_tradeAhead 18 = .ok (.iconst 1, 1) := by decide +kernel
theorem dX12_tradeAhead_19 : decode cX12_tradeAhead 19 = .ok (.invokevirtual 214, 3) := by decide +kernel
theorem dX12_tradeAhead_22 : decode cX12_tradeAhead 22 = .ok (.aload_n 0, 1) := by decide +kernel
theorem dX12_tradeAhead_23 : decode cX12_tradeAhead 23 = .ok (.getfield 205, 3) := by decide +kernel
theorem dX12_tradeAhead_26 : decode cX12_tradeAhead 26 = .ok (.ifCond .ne 24, 3) := by decide +kernel
theorem dX12_tradeAhead_29 : decode cX12_tradeAhead 29 = .ok (.aload_n 0, 1) := by decide +kernel
theorem dX12_tradeAhead_30 : decode cX12_tradeAhead 30 = .ok (.getfield 16, 3) := by decide +kernel
theorem dX12_tradeAhead_33 : decode cX12_tradeAhead 33 = .ok (.bipush 6, 2) := by decide +kernel
theorem dX12_tradeAhead_35 : decode cX12_tradeAhead 35 = .ok (.aload_n 0, 1) := by decide +kernel
theorem dX12_tradeAhead_36 : decode cX12_tradeAhead 36 = .ok (.iconst 0, 1) := by decide +kernel
theorem dX12_tradeAhead_37 : decode cX12_tradeAhead 37 = .ok (.invokevirtual 221, 3) := by decide +kernel
theorem dX12_tradeAhead_40 : decode cX12_tradeAhead 40 = .ok (.aload_n 0, 1) := by decide +kernel
theorem dX12_tradeAhead_41 : decode cX12_tradeAhead 41 = .ok (.getfield 180, 3) := by decide +kernel
theorem dX12_tradeAhead_44 : decode cX12_tradeAhead 44 = .ok (.invokestatic 217, 3) := by decide +kernel
theorem dX12_tradeAhead_47 : decode cX12_tradeAhead 47 = .ok (.goto 4, 3) := by decide +kernel
theorem dX12_tradeAhead_50 : decode cX12_tradeAhead 50 = .ok (.iconst 0, 1) := by decide +kernel
theorem dX12_tradeAhead_51 : decode cX12_tradeAhead 51 = .ok (.istore_n 1, 1) := by decide +kernel
theorem dX12_tradeAhead_52 : decode cX12_tradeAhead 52 = .ok (.aload_n 0, 1) := by decide +kernel
theorem dX12_tradeAhead_53 : decode cX12_tradeAhead 53 = .ok (.getfield 205, 3) := by decide +kernel
theorem dX12_tradeAhead_56 : decode cX12_tradeAhead 56 = .ok (.ifCond .ne 13, 3) := by decide +kernel
theorem dX12_tradeAhead_59 : decode cX12_tradeAhead 59 = .ok (.iload_n 1, 1) := by decide +kernel
theorem dX12_tradeAhead_60 : decode cX12_tradeAhead 60 = .ok (.iconst (-1), 1) := by decide +kernel
theorem dX12_tradeAhead_61 : decode cX12_tradeAhead 61 = .ok (.if_icmp .ne 8, 3) := by decide +kernel
theorem dX12_tradeAhead_64 : decode cX12_tradeAhead 64 = .ok (.aload_n 0, 1) := by decide +kernel
theorem dX12_tradeAhead_65 : decode cX12_tradeAhead 65 = .ok (.iconst 4, 1) := by decide +kernel
theorem dX12_tradeAhead_66 : decode cX12_tradeAhead 66 = .ok (.invokevirtual 214, 3) := by decide +kernel
theorem dX12_tradeAhead_69 : decode cX12_tradeAhead 69 = .ok (.aload_n 0, 1) := by decide +kernel
theorem dX12_tradeAhead_70 : decode cX12_tradeAhead 70 = .ok (.invokevirtual 225, 3) := by decide +kernel
theorem dX12_tradeAhead_73 : decode cX12_tradeAhead 73 = .ok (.aload_n 0, 1) := by decide +kernel
theorem dX12_tradeAhead_74 : decode cX12_tradeAhead 74 = .ok (.getfield 205, 3) := by decide +kernel
theorem dX12_tradeAhead_77 : decode cX12_tradeAhead 77 = .ok (.ifCond .eq 7, 3) := by decide +kernel
theorem dX12_tradeAhead_80 : decode cX12_tradeAhead 80 = .ok (.iconst 0, 1) := by decide +kernel
theorem dX12_tradeAhead_81 : decode cX12_tradeAhead 81 = .ok (.goto 4, 3) := by decide +kernel
theorem dX12_tradeAhead_84 : decode cX12_tradeAhead 84 = .ok (.iload_n 1, 1) := by decide +kernel
theorem dX12_tradeAhead_85 : decode cX12_tradeAhead 85 = .ok (.ireturn, 1) := by decide +kernel
theorem dX12_isFull_0 : decode cX12_isFull 0 = .ok (.iload_n 1, 1) := by decide +kernel
theorem dX12_isFull_1 : decode cX12_isFull 1 = .ok (.tableswitch 94 0 3 #[31, 47, 63, 79], 31) := by decide +kernel
theorem dX12_isFull_32 : decode cX12_isFull 32 = .ok (.aload_n 0, 1) := by decide +kernel
theorem dX12_isFull_33 : decode cX12_isFull 33 = .ok (.iconst 0, 1) := by decide +kernel
theorem dX12_isFull_34 : decode cX12_isFull 34 = .ok (.invokevirtual 221, 3) := by decide +kernel
theorem dX12_isFull_37 : decode cX12_isFull 37 = .ok (.bipush 6, 2) := by decide +kernel
theorem dX12_isFull_39 : decode cX12_isFull 39 = .ok (.if_icmp .ne 7, 3) := by decide +kernel
theorem dX12_isFull_42 : decode cX12_isFull 42 = .ok (.iconst 1, 1) := by decide +kernel
theorem dX12_isFull_43 : decode cX12_isFull 43 = .ok (.goto 4, 3) := by decide +kernel
theorem dX12_isFull_46 : decode cX12_isFull 46 = .ok (.iconst 0, 1) := by decide +kernel
theorem dX12_isFull_47 : decode cX12_isFull 47 = .ok (.ireturn, 1) := by decide +kernel
theorem dX12_isFull_48 : decode cX12_isFull 48 = .ok (.aload_n 0, 1) := by decide +kernel
theorem dX12_isFull_49 : decode cX12_isFull 49 = .ok (.iconst 1, 1) := by decide +kernel
theorem dX12_isFull_50 : decode cX12_isFull 50 = .ok (.invokevirtual 221, 3) := by decide +kernel
theorem dX12_isFull_53 : decode cX12_isFull 53 = .ok (.bipush 12, 2) := by decide +kernel
theorem dX12_isFull_55 : decode cX12_isFull 55 = .ok (.if_icmp .ne 7, 3) := by decide +kernel
theorem dX12_isFull_58 : decode cX12_isFull 58 = .ok (.iconst 1, 1) := by decide +kernel
theorem dX12_isFull_59 : decode cX12_isFull 59 = .ok (.goto 4, 3) := by decide +kernel
theorem dX12_isFull_62 : decode cX12_isFull 62 = .ok (.iconst 0, 1) := by decide +kernel
theorem dX12_isFull_63 : decode cX12_isFull 63 = .ok (.ireturn, 1) := by decide +kernel
theorem dX12_isFull_64 : decode cX12_isFull 64 = .ok (.aload_n 0, 1) := by decide +kernel
theorem dX12_isFull_65 : decode cX12_isFull 65 = .ok (.iconst 2, 1) := by decide +kernel
theorem dX12_isFull_66 : decode cX12_isFull 66 = .ok (.invokevirtual 221, 3) := by decide +kernel
theorem dX12_isFull_69 : decode cX12_isFull 69 = .ok (.bipush 10, 2) := by decide +kernel
theorem dX12_isFull_71 : decode cX12_isFull 71 = .ok (.if_icmp .ne 7, 3) := by decide +kernel
theorem dX12_isFull_74 : decode cX12_isFull 74 = .ok (.iconst 1, 1) := by decide +kernel
theorem dX12_isFull_75 : decode cX12_isFull 75 = .ok (.goto 4, 3) := by decide +kernel
theorem dX12_isFull_78 : decode cX12_isFull 78 = .ok (.iconst 0, 1) := by decide +kernel
theorem dX12_isFull_79 : decode cX12_isFull 79 = .ok (.ireturn, 1) := by decide +kernel
theorem dX12_isFull_80 : decode cX12_isFull 80 = .ok (.aload_n 0, 1) := by decide +kernel
theorem dX12_isFull_81 : decode cX12_isFull 81 = .ok (.iconst 3, 1) := by decide +kernel
theorem dX12_isFull_82 : decode cX12_isFull 82 = .ok (.invokevirtual 221, 3) := by decide +kernel
theorem dX12_isFull_85 : decode cX12_isFull 85 = .ok (.iconst 5, 1) := by decide +kernel
theorem dX12_isFull_86 : decode cX12_isFull 86 = .ok (.if_icmp .ne 7, 3) := by decide +kernel
theorem dX12_isFull_89 : decode cX12_isFull 89 = .ok (.iconst 1, 1) := by decide +kernel
theorem dX12_isFull_90 : decode cX12_isFull 90 = .ok (.goto 4, 3) := by decide +kernel
theorem dX12_isFull_93 : decode cX12_isFull 93 = .ok (.iconst 0, 1) := by decide +kernel
theorem dX12_isFull_94 : decode cX12_isFull 94 = .ok (.ireturn, 1) := by decide +kernel
theorem dX12_isFull_95 : decode cX12_isFull 95 = .ok (.iconst 0, 1) := by decide +kernel
theorem dX12_isFull_96 : decode cX12_isFull 96 = .ok (.ireturn, 1) := by decide +kernel
theorem dX12_line_0 : decode cX12_line 0 = .ok (.aload_n 0, 1) := by decide +kernel
theorem dX12_line_1 : decode cX12_line 1 = .ok (.getfield 170, 3) := by decide +kernel
theorem dX12_line_4 : decode cX12_line 4 = .ok (.ifCond .ne 12, 3) := by decide +kernel
theorem dX12_line_7 : decode cX12_line 7 = .ok (.aload_n 0, 1) := by decide +kernel
theorem dX12_line_8 : decode cX12_line 8 = .ok (.getfield 180, 3) := by decide +kernel
theorem dX12_line_11 : decode cX12_line 11 = .ok (.bipush 6, 2) := by decide +kernel
theorem dX12_line_13 : decode cX12_line 13 = .ok (.if_icmp .le 9, 3) := by decide +kernel
theorem dX12_line_16 : decode cX12_line 16 = .ok (.aload_n 0, 1) := by decide +kernel
theorem dX12_line_17 : decode cX12_line 17 = .ok (.iconst 1, 1) := by decide +kernel
theorem dX12_line_18 : decode cX12_line 18 = .ok (.invokevirtual 214, 3) := by decide +kernel
theorem dX12_line_21 : decode cX12_line 21 = .ok (.return_, 1) := by decide +kernel
theorem dX12_line_22 : decode cX12_line 22 = .ok (.aload_n 0, 1) := by decide +kernel
theorem dX12_line_23 : decode cX12_line 23 = .ok (.getfield 180, 3) := by decide +kernel
theorem dX12_line_26 : decode cX12_line 26 = .ok (.istore_n 1, 1) := by decide +kernel
theorem dX12_line_27 : decode cX12_line 27 = .ok (.aload_n 0, 1) := by decide +kernel
theorem dX12_line_28 : decode cX12_line 28 = .ok (.iload_n 1, 1) := by decide +kernel
theorem dX12_line_29 : decode cX12_line 29 = .ok (.invokevirtual 228, 3) := by decide +kernel
theorem dX12_line_32 : decode cX12_line 32 = .ok (.ifCond .eq 11, 3) := by decide +kernel
theorem dX12_line_35 : decode cX12_line 35 = .ok (.aload_n 0, 1) := by decide +kernel
theorem dX12_line_36 : decode cX12_line 36 = .ok (.iconst 2, 1) := by decide +kernel
theorem dX12_line_37 : decode cX12_line 37 = .ok (.invokevirtual 214, 3) := by decide +kernel
theorem dX12_line_40 : decode cX12_line 40 = .ok (.goto 30, 3) := by decide +kernel
theorem dX12_line_43 : decode cX12_line 43 = .ok (.iload_n 1, 1) := by decide +kernel
theorem dX12_line_44 : decode cX12_line 44 = .ok (.iconst 4, 1) := by decide +kernel
theorem dX12_line_45 : decode cX12_line 45 = .ok (.if_icmp .eq 8, 3) := by decide +kernel
theorem dX12_line_48 : decode cX12_line 48 = .ok (.iload_n 1, 1) := by decide +kernel
theorem dX12_line_49 : decode cX12_line 49 = .ok (.iconst 5, 1) := by decide +kernel
theorem dX12_line_50 : decode cX12_line 50 = .ok (.if_icmp .ne 20, 3) := by decide +kernel
theorem dX12_line_53 : decode cX12_line 53 = .ok (.aload_n 0, 1) := by decide +kernel
theorem dX12_line_54 : decode cX12_line 54 = .ok (.getfield 231, 3) := by decide +kernel
theorem dX12_line_57 : decode cX12_line 57 = .ok (.iload_n 1, 1) := by decide +kernel
theorem dX12_line_58 : decode cX12_line 58 = .ok (.ishr, 1) := by decide +kernel
theorem dX12_line_59 : decode cX12_line 59 = .ok (.iconst 1, 1) := by decide +kernel
theorem dX12_line_60 : decode cX12_line 60 = .ok (.iand, 1) := by decide +kernel
theorem dX12_line_61 : decode cX12_line 61 = .ok (.iconst 1, 1) := by decide +kernel
theorem dX12_line_62 : decode cX12_line 62 = .ok (.if_icmp .ne 8, 3) := by decide +kernel
theorem dX12_line_65 : decode cX12_line 65 = .ok (.aload_n 0, 1) := by decide +kernel
theorem dX12_line_66 : decode cX12_line 66 = .ok (.iconst 3, 1) := by decide +kernel
theorem dX12_line_67 : decode cX12_line 67 = .ok (.invokevirtual 214, 3) := by decide +kernel
theorem dX12_line_70 : decode cX12_line 70 = .ok (.aload_n 0, 1) := by decide +kernel
theorem dX12_line_71 : decode cX12_line 71 = .ok (.getfield 205, 3) := by decide +kernel
theorem dX12_line_74 : decode cX12_line 74 = .ok (.ifCond .eq 4, 3) := by decide +kernel
theorem dX12_line_77 : decode cX12_line 77 = .ok (.return_, 1) := by decide +kernel
theorem dX12_line_78 : decode cX12_line 78 = .ok (.aload_n 0, 1) := by decide +kernel
theorem dX12_line_79 : decode cX12_line 79 = .ok (.dup, 1) := by decide +kernel
theorem dX12_line_80 : decode cX12_line 80 = .ok (.getfield 231, 3) := by decide +kernel
theorem dX12_line_83 : decode cX12_line 83 = .ok (.iconst 1, 1) := by decide +kernel
theorem dX12_line_84 : decode cX12_line 84 = .ok (.iload_n 1, 1) := by decide +kernel
theorem dX12_line_85 : decode cX12_line 85 = .ok (.ishl, 1) := by decide +kernel
theorem dX12_line_86 : decode cX12_line 86 = .ok (.ior, 1) := by decide +kernel
theorem dX12_line_87 : decode cX12_line 87 = .ok (.putfield 231, 3) := by decide +kernel
theorem dX12_line_90 : decode cX12_line 90 = .ok (.aload_n 0, 1) := by decide +kernel
theorem dX12_line_91 : decode cX12_line 91 = .ok (.invokevirtual 211, 3) := by decide +kernel
theorem dX12_line_94 : decode cX12_line 94 = .ok (.iload_n 1, 1) := by decide +kernel
theorem dX12_line_95 : decode cX12_line 95 = .ok (.tableswitch 259 0 5 #[37, 108, 140, 147, 229, 244], 37) := by decide +kernel
theorem dX12_line_132 : decode cX12_line 132 = .ok (.bipush 6, 2) := by decide +kernel
theorem dX12_line_134 : decode cX12_line 134 = .ok (.aload_n 0, 1) := by decide +kernel
theorem dX12_line_135 : decode cX12_line 135 = .ok (.iconst 0, 1) := by decide +kernel
theorem dX12_line_136 : decode cX12_line 136 = .ok (.invokevirtual 221, 3) := by decide +kernel
theorem dX12_line_139 : decode cX12_line 139 = .ok (.iadd, 1) := by decide +kernel
theorem dX12_line_140 : decode cX12_line 140 = .ok (.istore_n 2, 1) := by decide +kernel
theorem dX12_line_141 : decode cX12_line 141 = .ok (.aload_n 0, 1) := by decide +kernel
theorem dX12_line_142 : decode cX12_line 142 = .ok (.getfield 16, 3) := by decide +kernel
theorem dX12_line_145 : decode cX12_line 145 = .ok (.iload_n 2, 1) := by decide +kernel
theorem dX12_line_146 : decode cX12_line 146 = .ok (.aload_n 0, 1) := by decide +kernel
theorem dX12_line_147 : decode cX12_line 147 = .ok (.aload_n 0, 1) := by decide +kernel
theorem dX12_line_148 : decode cX12_line 148 = .ok (.getfield 16, 3) := by decide +kernel
theorem dX12_line_151 : decode cX12_line 151 = .ok (.bipush 6, 2) := by decide +kernel
theorem dX12_line_153 : decode cX12_line 153 = .ok (.aload_n 0, 1) := by decide +kernel
theorem dX12_line_154 : decode cX12_line 154 = .ok (.iconst 0, 1) := by decide +kernel
theorem dX12_line_155 : decode cX12_line 155 = .ok (.invokevirtual 221, 3) := by decide +kernel
theorem dX12_line_158 : decode cX12_line 158 = .ok (.invokevirtual 234, 3) := by decide +kernel
theorem dX12_line_161 : decode cX12_line 161 = .ok (.iastore, 1) := by decide +kernel
theorem dX12_line_162 : decode cX12_line 162 = .ok (.aload_n 0, 1) := by decide +kernel
theorem dX12_line_163 : decode cX12_line 163 = .ok (.getfield 19, 3) := by decide +kernel
theorem dX12_line_166 : decode cX12_line 166 = .ok (.iload_n 2, 1) := by decide +kernel
theorem dX12_line_167 : decode cX12_line 167 = .ok (.aload_n 0, 1) := by decide +kernel
theorem dX12_line_168 : decode cX12_line 168 = .ok (.iconst 0, 1) := by decide +kernel
theorem dX12_line_169 : decode cX12_line 169 = .ok (.bipush 23, 2) := by decide +kernel
theorem dX12_line_171 : decode cX12_line 171 = .ok (.invokevirtual 238, 3) := by decide +kernel
theorem dX12_line_174 : decode cX12_line 174 = .ok (.iastore, 1) := by decide +kernel
theorem dX12_line_175 : decode cX12_line 175 = .ok (.aload_n 0, 1) := by decide +kernel
theorem dX12_line_176 : decode cX12_line 176 = .ok (.getfield 22, 3) := by decide +kernel
theorem dX12_line_179 : decode cX12_line 179 = .ok (.iload_n 2, 1) := by decide +kernel
theorem dX12_line_180 : decode cX12_line 180 = .ok (.aload_n 0, 1) := by decide +kernel
theorem dX12_line_181 : decode cX12_line 181 = .ok (.iconst 0, 1) := by decide +kernel
theorem dX12_line_182 : decode cX12_line 182 = .ok (.bipush 9, 2) := by decide +kernel
theorem dX12_line_184 : decode cX12_line 184 = .ok (.invokevirtual 238, 3) := by decide +kernel
theorem dX12_line_187 : decode cX12_line 187 = .ok (.iastore, 1) := by decide +kernel
theorem dX12_line_188 : decode cX12_line 188 = .ok (.aload_n 0, 1) := by decide +kernel
theorem dX12_line_189 : decode cX12_line 189 = .ok (.iconst 0, 1) := by decide +kernel
theorem dX12_line_190 : decode cX12_line 190 = .ok (.aload_n 0, 1) := by decide +kernel
theorem dX12_line_191 : decode cX12_line 191 = .ok (.iconst 0, 1) := by decide +kernel
theorem dX12_line_192 : decode cX12_line 192 = .ok (.invokevirtual 221, 3) := by decide +kernel
theorem dX12_line_195 : decode cX12_line 195 = .ok (.iconst 1, 1) := by decide +kernel
theorem dX12_line_196 : decode cX12_line 196 = .ok (.iadd, 1) := by decide +kernel
theorem dX12_line_197 : decode cX12_line 197 = .ok (.invokevirtual 242, 3) := by decide +kernel
theorem dX12_line_200 : decode cX12_line 200 = .ok (.goto 158, 3) := by decide +kernel
theorem dX12_line_203 : decode cX12_line 203 = .ok (.aload_n 0, 1) := by decide +kernel
theorem dX12_line_204 : decode cX12_line 204 = .ok (.getfield 25, 3) := by decide +kernel
theorem dX12_line_207 : decode cX12_line 207 = .ok (.bipush 12, 2) := by decide +kernel
theorem dX12_line_209 : decode cX12_line 209 = .ok (.aload_n 0, 1) := by decide +kernel
theorem dX12_line_210 : decode cX12_line 210 = .ok (.iconst 1, 1) := by decide +kernel
theorem dX12_line_211 : decode cX12_line 211 = .ok (.invokevirtual 221, 3) := by decide +kernel
theorem dX12_line_214 : decode cX12_line 214 = .ok (.iadd, 1) := by decide +kernel
theorem dX12_line_215 : decode cX12_line 215 = .ok (.aload_n 0, 1) := by decide +kernel
theorem dX12_line_216 : decode cX12_line 216 = .ok (.invokevirtual 246, 3) := by decide +kernel
theorem dX12_line_219 : decode cX12_line 219 = .ok (.iastore, 1) := by decide +kernel
theorem dX12_line_220 : decode cX12_line 220 = .ok (.aload_n 0, 1) := by decide +kernel
theorem dX12_line_221 : decode cX12_line 221 = .ok (.iconst 1, 1) := by decide +kernel
theorem dX12_line_222 : decode cX12_line 222 = .ok (.aload_n 0, 1) := by decide +kernel
theorem dX12_line_223 : decode cX12_line 223 = .ok (.iconst 1, 1) := by decide +kernel
theorem dX12_line_224 : decode cX12_line 224 = .ok (.invokevirtual 221, 3) := by decide +kernel
theorem dX12_line_227 : decode cX12_line 227 = .ok (.iconst 1, 1) := by decide +kernel
theorem dX12_line_228 : decode cX12_line 228 = .ok (.iadd, 1) := by decide +kernel
theorem dX12_line_229 : decode cX12_line 229 = .ok (.invokevirtual 242, 3) := by decide +kernel
theorem dX12_line_232 : decode cX12_line 232 = .ok (.goto 126, 3) := by decide +kernel
theorem dX12_line_235 : decode cX12_line 235 = .ok (.aload_n 0, 1) := by decide +kernel
theorem dX12_line_236 : decode cX12_line 236 = .ok (.invokevirtual 249, 3) := by decide +kernel
theorem dX12_line_239 : decode cX12_line 239 = .ok (.goto 119, 3) := by decide +kernel
theorem dX12_line_242 : decode cX12_line 242 = .ok (.iconst 5, 1) := by decide +kernel
theorem dX12_line_243 : decode cX12_line 243 = .ok (.aload_n 0, 1) := by decide +kernel
theorem dX12_line_244 : decode cX12_line 244 = .ok (.iconst 3, 1) := by decide +kernel
theorem dX12_line_245 : decode cX12_line 245 = .ok (.invokevirtual 221, 3) := by decide +kernel
theorem dX12_line_248 : decode cX12_line 248 = .ok (.iadd, 1) := by decide +kernel
theorem dX12_line_249 : decode cX12_line 249 = .ok (.istore_n 3, 1) := by decide +kernel
theorem dX12_line_250 : decode cX12_line 250 = .ok (.aload_n 0, 1) := by decide +kernel
theorem dX12_line_251 : decode cX12_line 251 = .ok (.getfield 31, 3) := by decide +kernel
theorem dX12_line_254 : decode cX12_line 254 = .ok (.iload_n 3, 1) := by decide +kernel
theorem dX12_line_255 : decode cX12_line 255 = .ok (.aload_n 0, 1) := by decide +kernel
theorem dX12_line_256 : decode cX12_line 256 = .ok (.aload_n 0, 1) := by decide +kernel
theorem dX12_line_257 : decode cX12_line 257 = .ok (.getfield 31, 3) := by decide +kernel
theorem dX12_line_260 : decode cX12_line 260 = .ok (.iconst 5, 1) := by decide +kernel
theorem dX12_line_261 : decode cX12_line 261 = .ok (.aload_n 0, 1) := by decide +kernel
theorem dX12_line_262 : decode cX12_line 262 = .ok (.iconst 3, 1) := by decide +kernel
theorem dX12_line_263 : decode cX12_line 263 = .ok (.invokevirtual 221, 3) := by decide +kernel
theorem dX12_line_266 : decode cX12_line 266 = .ok (.invokevirtual 234, 3) := by decide +kernel
theorem dX12_line_269 : decode cX12_line 269 = .ok (.iastore, 1) := by decide +kernel
theorem dX12_line_270 : decode cX12_line 270 = .ok (.aload_n 0, 1) := by decide +kernel
theorem dX12_line_271 : decode cX12_line 271 = .ok (.getfield 34, 3) := by decide +kernel
theorem dX12_line_274 : decode cX12_line 274 = .ok (.iload_n 3, 1) := by decide +kernel
theorem dX12_line_275 : decode cX12_line 275 = .ok (.aload_n 0, 1) := by decide +kernel
theorem dX12_line_276 : decode cX12_line 276 = .ok (.iconst 0, 1) := by decide +kernel
theorem dX12_line_277 : decode cX12_line 277 = .ok (.bipush 24, 2) := by decide +kernel
theorem dX12_line_279 : decode cX12_line 279 = .ok (.invokevirtual 238, 3) := by decide +kernel
theorem dX12_line_282 : decode cX12_line 282 = .ok (.iastore, 1) := by decide +kernel
theorem dX12_line_283 : decode cX12_line 283 = .ok (.aload_n 0, 1) := by decide +kernel
theorem dX12_line_284 : decode cX12_line 284 = .ok (.getfield 37, 3) := by decide +kernel
theorem dX12_line_287 : decode cX12_line 287 = .ok (.iload_n 3, 1) := by decide +kernel
theorem dX12_line_288 : decode cX12_line 288 = .ok (.aload_n 0, 1) := by decide +kernel
theorem dX12_line_289 : decode cX12_line 289 = .ok (.iconst 0, 1) := by decide +kernel
theorem dX12_line_290 : decode cX12_line 290 = .ok (.bipush 24, 2) := by decide +kernel
theorem dX12_line_292 : decode cX12_line 292 = .ok (.invokevirtual 238, 3) := by decide +kernel
theorem dX12_line_295 : decode cX12_line 295 = .ok (.iastore, 1) := by decide +kernel
theorem dX12_line_296 : decode cX12_line 296 = .ok (.aload_n 0, 1) := by decide +kernel
theorem dX12_line_297 : decode cX12_line 297 = .ok (.getfield 40, 3) := by decide +kernel
theorem dX12_line_300 : decode cX12_line 300 = .ok (.iload_n 3, 1) := by decide +kernel
theorem dX12_line_301 : decode cX12_line 301 = .ok (.aload_n 0, 1) := by decide +kernel
theorem dX12_line_302 : decode cX12_line 302 = .ok (.iconst 1, 1) := by decide +kernel
theorem dX12_line_303 : decode cX12_line 303 = .ok (.bipush 9, 2) := by decide +kernel
theorem dX12_line_305 : decode cX12_line 305 = .ok (.invokevirtual 238, 3) := by decide +kernel
theorem dX12_line_308 : decode cX12_line 308 = .ok (.iastore, 1) := by decide +kernel
theorem dX12_line_309 : decode cX12_line 309 = .ok (.aload_n 0, 1) := by decide +kernel
theorem dX12_line_310 : decode cX12_line 310 = .ok (.iconst 3, 1) := by decide +kernel
theorem dX12_line_311 : decode cX12_line 311 = .ok (.aload_n 0, 1) := by decide +kernel
theorem dX12_line_312 : decode cX12_line 312 = .ok (.iconst 3, 1) := by decide +kernel
theorem dX12_line_313 : decode cX12_line 313 = .ok (.invokevirtual 221, 3) := by decide +kernel
theorem dX12_line_316 : decode cX12_line 316 = .ok (.iconst 1, 1) := by decide +kernel
theorem dX12_line_317 : decode cX12_line 317 = .ok (.iadd, 1) := by decide +kernel
theorem dX12_line_318 : decode cX12_line 318 = .ok (.invokevirtual 242, 3) := by decide +kernel
theorem dX12_line_321 : decode cX12_line 321 = .ok (.goto 37, 3) := by decide +kernel
theorem dX12_line_324 : decode cX12_line 324 = .ok (.aload_n 0, 1) := by decide +kernel
theorem dX12_line_325 : decode cX12_line 325 = .ok (.iconst 4, 1) := by decide +kernel
theorem dX12_line_326 : decode cX12_line 326 = .ok (.aload_n 0, 1) := by decide +kernel
theorem dX12_line_327 : decode cX12_line 327 = .ok (.iconst 0, 1) := by decide +kernel
theorem dX12_line_328 : decode cX12_line 328 = .ok (.bipush 100, 2) := by decide +kernel
theorem dX12_line_330 : decode cX12_line 330 = .ok (.invokevirtual 238, 3) := by decide +kernel
theorem dX12_line_333 : decode cX12_line 333 = .ok (.invokevirtual 242, 3) := by decide +kernel
theorem dX12_line_336 : decode cX12_line 336 = .ok (.goto 22, 3) := by decide +kernel
theorem dX12_line_339 : decode cX12_line 339 = .ok (.aload_n 0, 1) := by decide +kernel
theorem dX12_line_340 : decode cX12_line 340 = .ok (.iconst 5, 1) := by decide +kernel
theorem dX12_line_341 : decode cX12_line 341 = .ok (.aload_n 0, 1) := by decide +kernel
theorem dX12_line_342 : decode cX12_line 342 = .ok (.iconst 0, 1) := by decide +kernel
theorem dX12_line_343 : decode cX12_line 343 = .ok (.ldc 189, 2) := by decide +kernel
theorem dX12_line_345 : decode cX12_line 345 = .ok (.invokevirtual 238, 3) := by decide +kernel
theorem dX12_line_348 : decode cX12_line 348 = .ok (.invokevirtual 242, 3) := by decide +kernel
theorem dX12_line_351 : decode cX12_line 351 = .ok (.goto 7, 3) := by decide +kernel
theorem dX12_line_354 : decode cX12_line 354 = .ok (.aload_n 0, 1) := by decide +kernel
theorem dX12_line_355 : decode cX12_line 355 = .ok (.invokevirtual 252, 3) := by decide +kernel
theorem dX12_line_358 : decode cX12_line 358 = .ok (.aload_n 0, 1) := by decide +kernel
theorem dX12_line_359 : decode cX12_line 359 = .ok (.getfield 205, 3) := by decide +kernel
theorem dX12_line_362 : decode cX12_line 362 = .ok (.ifCond .eq 4, 3) := by decide +kernel
theorem dX12_line_365 : decode cX12_line 365 = .ok (.return_, 1) := by decide +kernel
theorem dX12_line_366 : decode cX12_line 366 = .ok (.aload_n 0, 1) := by decide +kernel
theorem dX12_line_367 : decode cX12_line 367 = .ok (.bipush 59, 2) := by decide +kernel
theorem dX12_line_369 : decode cX12_line 369 = .ok (.invokevirtual 255, 3) := by decide +kernel
theorem dX12_line_372 : decode cX12_line 372 = .ok (.ifCond .ne 11, 3) := by decide +kernel
theorem dX12_line_375 : decode cX12_line 375 = .ok (.aload_n 0, 1) := by decide +kernel
theorem dX12_line_376 : decode cX12_line 376 = .ok (.iconst 1, 1) := by decide +kernel
theorem dX12_line_377 : decode cX12_line 377 = .ok (.invokevirtual 214, 3) := by decide +kernel
theorem dX12_line_380 : decode cX12_line 380 = .ok (.goto 7, 3) := by decide +kernel
theorem dX12_line_383 : decode cX12_line 383 = .ok (.aload_n 0, 1) := by decide +kernel
theorem dX12_line_384 : decode cX12_line 384 = .ok (.invokevirtual 211, 3) := by decide +kernel
theorem dX12_line_387 : decode cX12_line 387 = .ok (.aload_n 0, 1) := by decide +kernel
theorem dX12_line_388 : decode cX12_line 388 = .ok (.dup, 1) := by decide +kernel
theorem dX12_line_389 : decode cX12_line 389 = .ok (.getfield 258, 3) := by decide +kernel
theorem dX12_line_392 : decode cX12_line 392 = .ok (.iconst 1, 1) := by decide +kernel
theorem dX12_line_393 : decode cX12_line 393 = .ok (.iadd, 1) := by decide +kernel
theorem dX12_line_394 : decode cX12_line 394 = .ok (.putfield 258, 3) := by decide +kernel
theorem dX12_line_397 : decode cX12_line 397 = .ok (.return_, 1) := by decide +kernel
theorem dX12_claimLine_0 : decode cX12_claimLine 0 = .ok (.aload_n 0, 1) := by decide +kernel
theorem dX12_claimLine_1 : decode cX12_claimLine 1 = .ok (.invokevirtual 246, 3) := by decide +kernel
theorem dX12_claimLine_4 : decode cX12_claimLine 4 = .ok (.istore_n 1, 1) := by decide +kernel
theorem dX12_claimLine_5 : decode cX12_claimLine 5 = .ok (.aload_n 0, 1) := by decide +kernel
theorem dX12_claimLine_6 : decode cX12_claimLine 6 = .ok (.getfield 205, 3) := by decide +kernel
theorem dX12_claimLine_9 : decode cX12_claimLine 9 = .ok (.ifCond .ne 41, 3) := by decide +kernel
theorem dX12_claimLine_12 : decode cX12_claimLine 12 = .ok (.aload_n 0, 1) := by decide +kernel
theorem dX12_claimLine_13 : decode cX12_claimLine 13 = .ok (.getfield 170, 3) := by decide +kernel
theorem dX12_claimLine_16 : decode cX12_claimLine 16 = .ok (.iconst 2, 1) := by decide +kernel
theorem dX12_claimLine_17 : decode cX12_claimLine 17 = .ok (.if_icmp .ne 33, 3) := by decide +kernel
theorem dX12_claimLine_20 : decode cX12_claimLine 20 = .ok (.aload_n 0, 1) := by decide +kernel
theorem dX12_claimLine_21 : decode cX12_claimLine 21 = .ok (.getfield 180, 3) := by decide +kernel
theorem dX12_claimLine_24 : decode cX12_claimLine 24 = .ok (.bipush 100, 2) := by decide +kernel
theorem dX12_claimLine_26 : decode cX12_claimLine 26 = .ok (.if_icmp .ge 24, 3) := by decide +kernel
theorem dX12_claimLine_29 : decode cX12_claimLine 29 = .ok (.aload_n 0, 1) := by decide +kernel
theorem dX12_claimLine_30 : decode cX12_claimLine 30 = .ok (.getfield 28, 3) := by decide +kernel
theorem dX12_claimLine_33 : decode cX12_claimLine 33 = .ok (.bipush 100, 2) := by decide +kernel
theorem dX12_claimLine_35 : decode cX12_claimLine 35 = .ok (.aload_n 0, 1) := by decide +kernel
theorem dX12_claimLine_36 : decode cX12_claimLine 36 = .ok (.getfield 180, 3) := by decide +kernel
theorem dX12_claimLine_39 : decode cX12_claimLine 39 = .ok (.iadd, 1) := by decide +kernel
theorem dX12_claimLine_40 : decode cX12_claimLine 40 = .ok (.iaload, 1) := by decide +kernel
theorem dX12_claimLine_41 : decode cX12_claimLine 41 = .ok (.iconst (-1), 1) := by decide +kernel
theorem dX12_claimLine_42 : decode cX12_claimLine 42 = .ok (.if_icmp .eq 8, 3) := by decide +kernel
theorem dX12_claimLine_45 : decode cX12_claimLine 45 = .ok (.aload_n 0, 1) := by decide +kernel
theorem dX12_claimLine_46 : decode cX12_claimLine 46 = .ok (.iconst 3, 1) := by decide +kernel
theorem dX12_claimLine_47 : decode cX12_claimLine 47 = .ok (.invokevirtual 214, 3) := by decide +kernel
theorem dX12_claimLine_50 : decode cX12_claimLine 50 = .ok (.aload_n 0, 1) := by decide +kernel
theorem dX12_claimLine_51 : decode cX12_claimLine 51 = .ok (.iconst 0, 1) := by decide +kernel
theorem dX12_claimLine_52 : decode cX12_claimLine 52 = .ok (.bipush 99, 2) := by decide +kernel
theorem dX12_claimLine_54 : decode cX12_claimLine 54 = .ok (.invokevirtual 238, 3) := by decide +kernel
theorem dX12_claimLine_57 : decode cX12_claimLine 57 = .ok (.istore_n 2, 1) := by decide +kernel
theorem dX12_claimLine_58 : decode cX12_claimLine 58 = .ok (.aload_n 0, 1) := by decide +kernel
theorem dX12_claimLine_59 : decode cX12_claimLine 59 = .ok (.getfield 205, 3) := by decide +kernel
theorem dX12_claimLine_62 : decode cX12_claimLine 62 = .ok (.ifCond .eq 4, 3) := by decide +kernel
theorem dX12_claimLine_65 : decode cX12_claimLine 65 = .ok (.return_, 1) := by decide +kernel
theorem dX12_claimLine_66 : decode cX12_claimLine 66 = .ok (.aload_n 0, 1) := by decide +kernel
theorem dX12_claimLine_67 : decode cX12_claimLine 67 = .ok (.getfield 28, 3) := by decide +kernel
theorem dX12_claimLine_70 : decode cX12_claimLine 70 = .ok (.bipush 100, 2) := by decide +kernel
theorem dX12_claimLine_72 : decode cX12_claimLine 72 = .ok (.iload_n 2, 1) := by decide +kernel
theorem dX12_claimLine_73 : decode cX12_claimLine 73 = .ok (.iadd, 1) := by decide +kernel
theorem dX12_claimLine_74 : decode cX12_claimLine 74 = .ok (.iload_n 1, 1) := by decide +kernel
theorem dX12_claimLine_75 : decode cX12_claimLine 75 = .ok (.iastore, 1) := by decide +kernel
theorem dX12_claimLine_76 : decode cX12_claimLine 76 = .ok (.aload_n 0, 1) := by decide +kernel
theorem dX12_claimLine_77 : decode cX12_claimLine 77 = .ok (.iconst 2, 1) := by decide +kernel
theorem dX12_claimLine_78 : decode cX12_claimLine 78 = .ok (.aload_n 0, 1) := by decide +kernel
theorem dX12_claimLine_79 : decode cX12_claimLine 79 = .ok (.iconst 2, 1) := by decide +kernel
theorem dX12_claimLine_80 : decode cX12_claimLine 80 = .ok (.invokevirtual 221, 3) := by decide +kernel
theorem dX12_claimLine_83 : decode cX12_claimLine 83 = .ok (.iconst 1, 1) := by decide +kernel
theorem dX12_claimLine_84 : decode cX12_claimLine 84 = .ok (.iadd, 1) := by decide +kernel
theorem dX12_claimLine_85 : decode cX12_claimLine 85 = .ok (.invokevirtual 242, 3) := by decide +kernel
theorem dX12_claimLine_88 : decode cX12_claimLine 88 = .ok (.return_, 1) := by decide +kernel
theorem dX12_lawLine_0 : decode cX12_lawLine 0 = .ok (.aload_n 0, 1) := by decide +kernel
theorem dX12_lawLine_1 : decode cX12_lawLine 1 = .ok (.getfield 170, 3) := by decide +kernel
theorem dX12_lawLine_4 : decode cX12_lawLine 4 = .ok (.ifCond .ne 21, 3) := by decide +kernel
theorem dX12_lawLine_7 : decode cX12_lawLine 7 = .ok (.aload_n 0, 1) := by decide +kernel
theorem dX12_lawLine_8 : decode cX12_lawLine 8 = .ok (.getfield 180, 3) := by decide +kernel
theorem dX12_lawLine_11 : decode cX12_lawLine 11 = .ok (.bipush 7, 2) := by decide +kernel
theorem dX12_lawLine_13 : decode cX12_lawLine 13 = .ok (.if_icmp .lt 12, 3) := by decide +kernel
theorem dX12_lawLine_16 : decode cX12_lawLine 16 = .ok (.aload_n 0, 1) := by decide +kernel
theorem dX12_lawLine_17 : decode cX12_lawLine 17 = .ok (.getfield 180, 3) := by decide +kernel
theorem dX12_lawLine_20 : decode cX12_lawLine 20 = .ok (.bipush 9, 2) := by decide +kernel
theorem dX12_lawLine_22 : decode cX12_lawLine 22 = .ok (.if_icmp .le 8, 3) := by decide +kernel
theorem dX12_lawLine_25 : decode cX12_lawLine 25 = .ok (.aload_n 0, 1) := by decide +kernel
theorem dX12_lawLine_26 : decode cX12_lawLine 26 = .ok (.iconst 1, 1) := by decide +kernel
theorem dX12_lawLine_27 : decode cX12_lawLine 27 = .ok (.invokevirtual 214, 3) := by decide +kernel
theorem dX12_lawLine_30 : decode cX12_lawLine 30 = .ok (.aload_n 0, 1) := by decide +kernel
theorem dX12_lawLine_31 : decode cX12_lawLine 31 = .ok (.getfield 180, 3) := by decide +kernel
theorem dX12_lawLine_34 : decode cX12_lawLine 34 = .ok (.bipush 7, 2) := by decide +kernel
theorem dX12_lawLine_36 : decode cX12_lawLine 36 = .ok (.isub, 1) := by decide +kernel
theorem dX12_lawLine_37 : decode cX12_lawLine 37 = .ok (.istore_n 1, 1) := by decide +kernel
theorem dX12_lawLine_38 : decode cX12_lawLine 38 = .ok (.aload_n 0, 1) := by decide +kernel
theorem dX12_lawLine_39 : decode cX12_lawLine 39 = .ok (.getfield 205, 3) := by decide +kernel
theorem dX12_lawLine_42 : decode cX12_lawLine 42 = .ok (.ifCond .ne 23, 3) := by decide +kernel
theorem dX12_lawLine_45 : decode cX12_lawLine 45 = .ok (.aload_n 0, 1) := by decide +kernel
theorem dX12_lawLine_46 : decode cX12_lawLine 46 = .ok (.getfield 231, 3) := by decide +kernel
theorem dX12_lawLine_49 : decode cX12_lawLine 49 = .ok (.bipush 16, 2) := by decide +kernel
theorem dX12_lawLine_51 : decode cX12_lawLine 51 = .ok (.iload_n 1, 1) := by decide +kernel
theorem dX12_lawLine_52 : decode cX12_lawLine 52 = .ok (.iadd, 1) := by decide +kernel
theorem dX12_lawLine_53 : decode cX12_lawLine 53 = .ok (.ishr, 1) := by decide +kernel
theorem dX12_lawLine_54 : decode cX12_lawLine 54 = .ok (.iconst 1, 1) := by decide +kernel
theorem dX12_lawLine_55 : decode cX12_lawLine 55 = .ok (.iand, 1) := by decide +kernel
theorem dX12_lawLine_56 : decode cX12_lawLine 56 = .ok (.iconst 1, 1) := by decide +kernel
theorem dX12_lawLine_57 : decode cX12_lawLine 57 = .ok (.if_icmp .ne 8, 3) := by decide +kernel
theorem dX12_lawLine_60 : decode cX12_lawLine 60 = .ok (.aload_n 0, 1) := by decide +kernel
theorem dX12_lawLine_61 : decode cX12_lawLine 61 = .ok (.iconst 3, 1) := by decide +kernel
theorem dX12_lawLine_62 : decode cX12_lawLine 62 = .ok (.invokevirtual 214, 3) := by decide +kernel
theorem dX12_lawLine_65 : decode cX12_lawLine 65 = .ok (.aload_n 0, 1) := by decide +kernel
theorem dX12_lawLine_66 : decode cX12_lawLine 66 = .ok (.getfield 205, 3) := by decide +kernel
theorem dX12_lawLine_69 : decode cX12_lawLine 69 = .ok (.ifCond .eq 4, 3) := by decide +kernel
theorem dX12_lawLine_72 : decode cX12_lawLine 72 = .ok (.return_, 1) := by decide +kernel
theorem dX12_lawLine_73 : decode cX12_lawLine 73 = .ok (.aload_n 0, 1) := by decide +kernel
theorem dX12_lawLine_74 : decode cX12_lawLine 74 = .ok (.dup, 1) := by decide +kernel
theorem dX12_lawLine_75 : decode cX12_lawLine 75 = .ok (.getfield 231, 3) := by decide +kernel
theorem dX12_lawLine_78 : decode cX12_lawLine 78 = .ok (.iconst 1, 1) := by decide +kernel
theorem dX12_lawLine_79 : decode cX12_lawLine 79 = .ok (.bipush 16, 2) := by decide +kernel
theorem dX12_lawLine_81 : decode cX12_lawLine 81 = .ok (.iload_n 1, 1) := by decide +kernel
theorem dX12_lawLine_82 : decode cX12_lawLine 82 = .ok (.iadd, 1) := by decide +kernel
theorem dX12_lawLine_83 : decode cX12_lawLine 83 = .ok (.ishl, 1) := by decide +kernel
theorem dX12_lawLine_84 : decode cX12_lawLine 84 = .ok (.ior, 1) := by decide +kernel
theorem dX12_lawLine_85 : decode cX12_lawLine 85 = .ok (.putfield 231, 3) := by decide +kernel
theorem dX12_lawLine_88 : decode cX12_lawLine 88 = .ok (.aload_n 0, 1) := by decide +kernel
theorem dX12_lawLine_89 : decode cX12_lawLine 89 = .ok (.invokevirtual 211, 3) := by decide +kernel
theorem dX12_lawLine_92 : decode cX12_lawLine 92 = .ok (.aload_n 0, 1) := by decide +kernel
theorem dX12_lawLine_93 : decode cX12_lawLine 93 = .ok (.getfield 43, 3) := by decide +kernel
theorem dX12_lawLine_96 : decode cX12_lawLine 96 = .ok (.iconst 3, 1) := by decide +kernel
theorem dX12_lawLine_97 : decode cX12_lawLine 97 = .ok (.iload_n 1, 1) := by decide +kernel
theorem dX12_lawLine_98 : decode cX12_lawLine 98 = .ok (.iadd, 1) := by decide +kernel
theorem dX12_lawLine_99 : decode cX12_lawLine 99 = .ok (.aload_n 0, 1) := by decide +kernel
theorem dX12_lawLine_100 : decode cX12_lawLine 100 = .ok (.bipush 6, 2) := by decide +kernel
theorem dX12_lawLine_102 : decode cX12_lawLine 102 = .ok (.invokevirtual 221, 3) := by decide +kernel
theorem dX12_lawLine_105 : decode cX12_lawLine 105 = .ok (.iastore, 1) := by decide +kernel
theorem dX12_lawLine_106 : decode cX12_lawLine 106 = .ok (.aload_n 0, 1) := by decide +kernel
theorem dX12_lawLine_107 : decode cX12_lawLine 107 = .ok (.invokevirtual 261, 3) := by decide +kernel
theorem dX12_lawLine_110 : decode cX12_lawLine 110 = .ok (.aload_n 0, 1) := by decide +kernel
theorem dX12_lawLine_111 : decode cX12_lawLine 111 = .ok (.getfield 46, 3) := by decide +kernel
theorem dX12_lawLine_114 : decode cX12_lawLine 114 = .ok (.iconst 3, 1) := by decide +kernel
theorem dX12_lawLine_115 : decode cX12_lawLine 115 = .ok (.iload_n 1, 1) := by decide +kernel
theorem dX12_lawLine_116 : decode cX12_lawLine 116 = .ok (.iadd, 1) := by decide +kernel
theorem dX12_lawLine_117 : decode cX12_lawLine 117 = .ok (.aload_n 0, 1) := by decide +kernel
theorem dX12_lawLine_118 : decode cX12_lawLine 118 = .ok (.bipush 6, 2) := by decide +kernel
theorem dX12_lawLine_120 : decode cX12_lawLine 120 = .ok (.invokevirtual 221, 3) := by decide +kernel
theorem dX12_lawLine_123 : decode cX12_lawLine 123 = .ok (.iastore, 1) := by decide +kernel
theorem dX12_lawLine_124 : decode cX12_lawLine 124 = .ok (.return_, 1) := by decide +kernel
theorem dX12_puts_0 : decode cX12_puts 0 = .ok (.aload_n 0, 1) := by decide +kernel
theorem dX12_puts_1 : decode cX12_puts 1 = .ok (.getfield 205, 3) := by decide +kernel
theorem dX12_puts_4 : decode cX12_puts 4 = .ok (.ifCond .eq 4, 3) := by decide +kernel
theorem dX12_puts_7 : decode cX12_puts 7 = .ok (.return_, 1) := by decide +kernel
theorem dX12_puts_8 : decode cX12_puts 8 = .ok (.aload_n 0, 1) := by decide +kernel
theorem dX12_puts_9 : decode cX12_puts 9 = .ok (.getfield 49, 3) := by decide +kernel
theorem dX12_puts_12 : decode cX12_puts 12 = .ok (.bipush 64, 2) := by decide +kernel
theorem dX12_puts_14 : decode cX12_puts 14 = .ok (.aload_n 0, 1) := by decide +kernel
theorem dX12_puts_15 : decode cX12_puts 15 = .ok (.bipush 6, 2) := by decide +kernel
theorem dX12_puts_17 : decode cX12_puts 17 = .ok (.invokevirtual 221, 3) := by decide +kernel
theorem dX12_puts_20 : decode cX12_puts 20 = .ok (.iadd, 1) := by decide +kernel
theorem dX12_puts_21 : decode cX12_puts 21 = .ok (.iload_n 1, 1) := by decide +kernel
theorem dX12_puts_22 : decode cX12_puts 22 = .ok (.iastore, 1) := by decide +kernel
theorem dX12_puts_23 : decode cX12_puts 23 = .ok (.aload_n 0, 1) := by decide +kernel
theorem dX12_puts_24 : decode cX12_puts 24 = .ok (.getfield 52, 3) := by decide +kernel
theorem dX12_puts_27 : decode cX12_puts 27 = .ok (.bipush 64, 2) := by decide +kernel
theorem dX12_puts_29 : decode cX12_puts 29 = .ok (.aload_n 0, 1) := by decide +kernel
theorem dX12_puts_30 : decode cX12_puts 30 = .ok (.bipush 6, 2) := by decide +kernel
theorem dX12_puts_32 : decode cX12_puts 32 = .ok (.invokevirtual 221, 3) := by decide +kernel
theorem dX12_puts_35 : decode cX12_puts 35 = .ok (.iadd, 1) := by decide +kernel
theorem dX12_puts_36 : decode cX12_puts 36 = .ok (.iload_n 2, 1) := by decide +kernel
theorem dX12_puts_37 : decode cX12_puts 37 = .ok (.iastore, 1) := by decide +kernel
theorem dX12_puts_38 : decode cX12_puts 38 = .ok (.aload_n 0, 1) := by decide +kernel
theorem dX12_puts_39 : decode cX12_puts 39 = .ok (.bipush 6, 2) := by decide +kernel
theorem dX12_puts_41 : decode cX12_puts 41 = .ok (.aload_n 0, 1) := by decide +kernel
theorem dX12_puts_42 : decode cX12_puts 42 = .ok (.bipush 6, 2) := by decide +kernel
theorem dX12_puts_44 : decode cX12_puts 44 = .ok (.invokevirtual 221, 3) := by decide +kernel
theorem dX12_puts_47 : decode cX12_puts 47 = .ok (.iconst 1, 1) := by decide +kernel
theorem dX12_puts_48 : decode cX12_puts 48 = .ok (.iadd, 1) := by decide +kernel
theorem dX12_puts_49 : decode cX12_puts 49 = .ok (.invokevirtual 242, 3) := by decide +kernel
theorem dX12_puts_52 : decode cX12_puts 52 = .ok (.return_, 1) := by decide +kernel
theorem dX12_knot_0 : decode cX12_knot 0 = .ok (.aload_n 0, 1) := by decide +kernel
theorem dX12_knot_1 : decode cX12_knot 1 = .ok (.getfield 205, 3) := by decide +kernel
theorem dX12_knot_4 : decode cX12_knot 4 = .ok (.ifCond .eq 4, 3) := by decide +kernel
theorem dX12_knot_7 : decode cX12_knot 7 = .ok (.return_, 1) := by decide +kernel
theorem dX12_knot_8 : decode cX12_knot 8 = .ok (.aload_n 0, 1) := by decide +kernel
theorem dX12_knot_9 : decode cX12_knot 9 = .ok (.getfield 264, 3) := by decide +kernel
theorem dX12_knot_12 : decode cX12_knot 12 = .ok (.bipush 64, 2) := by decide +kernel
theorem dX12_knot_14 : decode cX12_knot 14 = .ok (.if_icmp .ne 11, 3) := by decide +kernel
theorem dX12_knot_17 : decode cX12_knot 17 = .ok (.aload_n 0, 1) := by decide +kernel
theorem dX12_knot_18 : decode cX12_knot 18 = .ok (.iconst 2, 1) := by decide +kernel
theorem dX12_knot_19 : decode cX12_knot 19 = .ok (.invokevirtual 214, 3) := by decide +kernel
theorem dX12_knot_22 : decode cX12_knot 22 = .ok (.goto 13, 3) := by decide +kernel
theorem dX12_knot_25 : decode cX12_knot 25 = .ok (.aload_n 0, 1) := by decide +kernel
theorem dX12_knot_26 : decode cX12_knot 26 = .ok (.dup, 1) := by decide +kernel
theorem dX12_knot_27 : decode cX12_knot 27 = .ok (.getfield 264, 3) := by decide +kernel
theorem dX12_knot_30 : decode cX12_knot 30 = .ok (.iconst 1, 1) := by decide +kernel
theorem dX12_knot_31 : decode cX12_knot 31 = .ok (.iadd, 1) := by decide +kernel
theorem dX12_knot_32 : decode cX12_knot 32 = .ok (.putfield 264, 3) := by decide +kernel
theorem dX12_knot_35 : decode cX12_knot 35 = .ok (.return_, 1) := by decide +kernel
theorem dX12_expression_0 : decode cX12_expression 0 = .ok (.aload_n 0, 1) := by decide +kernel
theorem dX12_expression_1 : decode cX12_expression 1 = .ok (.invokevirtual 267, 3) := by decide +kernel
theorem dX12_expression_4 : decode cX12_expression 4 = .ok (.aload_n 0, 1) := by decide +kernel
theorem dX12_expression_5 : decode cX12_expression 5 = .ok (.bipush 10, 2) := by decide +kernel
theorem dX12_expression_7 : decode cX12_expression 7 = .ok (.invokevirtual 270, 3) := by decide +kernel
theorem dX12_expression_10 : decode cX12_expression 10 = .ok (.ifCond .eq 26, 3) := by decide +kernel
theorem dX12_expression_13 : decode cX12_expression 13 = .ok (.aload_n 0, 1) := by decide +kernel
theorem dX12_expression_14 : decode cX12_expression 14 = .ok (.invokevirtual 273, 3) := by decide +kernel
theorem dX12_expression_17 : decode cX12_expression 17 = .ok (.aload_n 0, 1) := by decide +kernel
theorem dX12_expression_18 : decode cX12_expression 18 = .ok (.invokevirtual 225, 3) := by decide +kernel
theorem dX12_expression_21 : decode cX12_expression 21 = .ok (.aload_n 0, 1) := by decide +kernel
theorem dX12_expression_22 : decode cX12_expression 22 = .ok (.invokevirtual 267, 3) := by decide +kernel
theorem dX12_expression_25 : decode cX12_expression 25 = .ok (.aload_n 0, 1) := by decide +kernel
theorem dX12_expression_26 : decode cX12_expression 26 = .ok (.iconst 2, 1) := by decide +kernel
theorem dX12_expression_27 : decode cX12_expression 27 = .ok (.sipush 262, 3) := by decide +kernel
theorem dX12_expression_30 : decode cX12_expression 30 = .ok (.invokevirtual 276, 3) := by decide +kernel
theorem dX12_expression_33 : decode cX12_expression 33 = .ok (.goto (-29), 3) := by decide +kernel
theorem dX12_expression_36 : decode cX12_expression 36 = .ok (.return_, 1) := by decide +kernel
theorem dX12_conjunction_0 : decode cX12_conjunction 0 = .ok (.aload_n 0, 1) := by decide +kernel
theorem dX12_conjunction_1 : decode cX12_conjunction 1 = .ok (.invokevirtual 279, 3) := by decide +kernel
theorem dX12_conjunction_4 : decode cX12_conjunction 4 = .ok (.aload_n 0, 1) := by decide +kernel
theorem dX12_conjunction_5 : decode cX12_conjunction 5 = .ok (.bipush 11, 2) := by decide +kernel
theorem dX12_conjunction_7 : decode cX12_conjunction 7 = .ok (.invokevirtual 270, 3) := by decide +kernel
theorem dX12_conjunction_10 : decode cX12_conjunction 10 = .ok (.ifCond .eq 26, 3) := by decide +kernel
theorem dX12_conjunction_13 : decode cX12_conjunction 13 = .ok (.aload_n 0, 1) := by decide +kernel
theorem dX12_conjunction_14 : decode cX12_conjunction 14 = .ok (.invokevirtual 273, 3) := by decide +kernel
theorem dX12_conjunction_17 : decode cX12_conjunction 17 = .ok (.aload_n 0, 1) := by decide +kernel
theorem dX12_conjunction_18 : decode cX12_conjunction 18 = .ok (.invokevirtual 225, 3) := by decide +kernel
theorem dX12_conjunction_21 : decode cX12_conjunction 21 = .ok (.aload_n 0, 1) := by decide +kernel
theorem dX12_conjunction_22 : decode cX12_conjunction 22 = .ok (.invokevirtual 279, 3) := by decide +kernel
theorem dX12_conjunction_25 : decode cX12_conjunction 25 = .ok (.aload_n 0, 1) := by decide +kernel
theorem dX12_conjunction_26 : decode cX12_conjunction 26 = .ok (.iconst 2, 1) := by decide +kernel
theorem dX12_conjunction_27 : decode cX12_conjunction 27 = .ok (.sipush 261, 3) := by decide +kernel
theorem dX12_conjunction_30 : decode cX12_conjunction 30 = .ok (.invokevirtual 276, 3) := by decide +kernel
theorem dX12_conjunction_33 : decode cX12_conjunction 33 = .ok (.goto (-29), 3) := by decide +kernel
theorem dX12_conjunction_36 : decode cX12_conjunction 36 = .ok (.return_, 1) := by decide +kernel
theorem dX12_negation_0 : decode cX12_negation 0 = .ok (.aload_n 0, 1) := by decide +kernel
theorem dX12_negation_1 : decode cX12_negation 1 = .ok (.bipush 12, 2) := by decide +kernel
theorem dX12_negation_3 : decode cX12_negation 3 = .ok (.invokevirtual 270, 3) := by decide +kernel
theorem dX12_negation_6 : decode cX12_negation 6 = .ok (.ifCond .eq 24, 3) := by decide +kernel
theorem dX12_negation_9 : decode cX12_negation 9 = .ok (.aload_n 0, 1) := by decide +kernel
theorem dX12_negation_10 : decode cX12_negation 10 = .ok (.invokevirtual 273, 3) := by decide +kernel
theorem dX12_negation_13 : decode cX12_negation 13 = .ok (.aload_n 0, 1) := by decide +kernel
theorem dX12_negation_14 : decode cX12_negation 14 = .ok (.invokevirtual 225, 3) := by decide +kernel
theorem dX12_negation_17 : decode cX12_negation 17 = .ok (.aload_n 0, 1) := by decide +kernel
theorem dX12_negation_18 : decode cX12_negation 18 = .ok (.invokevirtual 279, 3) := by decide +kernel
theorem dX12_negation_21 : decode cX12_negation 21 = .ok (.aload_n 0, 1) := by decide +kernel
theorem dX12_negation_22 : decode cX12_negation 22 = .ok (.iconst 2, 1) := by decide +kernel
theorem dX12_negation_23 : decode cX12_negation 23 = .ok (.sipush 260, 3) := by decide +kernel
theorem dX12_negation_26 : decode cX12_negation 26 = .ok (.invokevirtual 276, 3) := by decide +kernel
theorem dX12_negation_29 : decode cX12_negation 29 = .ok (.return_, 1) := by decide +kernel
theorem dX12_negation_30 : decode cX12_negation 30 = .ok (.aload_n 0, 1) := by decide +kernel
theorem dX12_negation_31 : decode cX12_negation 31 = .ok (.invokevirtual 282, 3) := by decide +kernel
theorem dX12_negation_34 : decode cX12_negation 34 = .ok (.aload_n 0, 1) := by decide +kernel
theorem dX12_negation_35 : decode cX12_negation 35 = .ok (.getfield 205, 3) := by decide +kernel
theorem dX12_negation_38 : decode cX12_negation 38 = .ok (.ifCond .ne 48, 3) := by decide +kernel
theorem dX12_negation_41 : decode cX12_negation 41 = .ok (.aload_n 0, 1) := by decide +kernel
theorem dX12_negation_42 : decode cX12_negation 42 = .ok (.getfield 170, 3) := by decide +kernel
theorem dX12_negation_45 : decode cX12_negation 45 = .ok (.iconst 3, 1) := by decide +kernel
theorem dX12_negation_46 : decode cX12_negation 46 = .ok (.if_icmp .ne 40, 3) := by decide +kernel
theorem dX12_negation_49 : decode cX12_negation 49 = .ok (.aload_n 0, 1) := by decide +kernel
theorem dX12_negation_50 : decode cX12_negation 50 = .ok (.getfield 180, 3) := by decide +kernel
theorem dX12_negation_53 : decode cX12_negation 53 = .ok (.bipush 60, 2) := by decide +kernel
theorem dX12_negation_55 : decode cX12_negation 55 = .ok (.if_icmp .eq 32, 3) := by decide +kernel
theorem dX12_negation_58 : decode cX12_negation 58 = .ok (.aload_n 0, 1) := by decide +kernel
theorem dX12_negation_59 : decode cX12_negation 59 = .ok (.getfield 180, 3) := by decide +kernel
theorem dX12_negation_62 : decode cX12_negation 62 = .ok (.bipush 62, 2) := by decide +kernel
theorem dX12_negation_64 : decode cX12_negation 64 = .ok (.if_icmp .eq 23, 3) := by decide +kernel
theorem dX12_negation_67 : decode cX12_negation 67 = .ok (.aload_n 0, 1) := by decide +kernel
theorem dX12_negation_68 : decode cX12_negation 68 = .ok (.getfield 180, 3) := by decide +kernel
theorem dX12_negation_71 : decode cX12_negation 71 = .ok (.bipush 61, 2) := by decide +kernel
theorem dX12_negation_73 : decode cX12_negation 73 = .ok (.if_icmp .eq 14, 3) := by decide +kernel
theorem dX12_negation_76 : decode cX12_negation 76 = .ok (.aload_n 0, 1) := by decide +kernel
theorem dX12_negation_77 : decode cX12_negation 77 = .ok (.getfield 180, 3) := by decide +kernel
theorem dX12_negation_80 : decode cX12_negation 80 = .ok (.sipush 256, 3) := by decide +kernel
theorem dX12_negation_83 : decode cX12_negation 83 = .ok (.if_icmp .ge 4, 3) := by decide +kernel
theorem dX12_negation_86 : decode cX12_negation 86 = .ok (.return_, 1) := by decide +kernel
theorem dX12_negation_87 : decode cX12_negation 87 = .ok (.aload_n 0, 1) := by decide +kernel
theorem dX12_negation_88 : decode cX12_negation 88 = .ok (.getfield 180, 3) := by decide +kernel
theorem dX12_negation_91 : decode cX12_negation 91 = .ok (.istore_n 1, 1) := by decide +kernel
theorem dX12_negation_92 : decode cX12_negation 92 = .ok (.aload_n 0, 1) := by decide +kernel
theorem dX12_negation_93 : decode cX12_negation 93 = .ok (.invokevirtual 273, 3) := by decide +kernel
theorem dX12_negation_96 : decode cX12_negation 96 = .ok (.aload_n 0, 1) := by decide +kernel
theorem dX12_negation_97 : decode cX12_negation 97 = .ok (.invokevirtual 225, 3) := by decide +kernel
theorem dX12_negation_100 : decode cX12_negation 100 = .ok (.aload_n 0, 1) := by decide +kernel
theorem dX12_negation_101 : decode cX12_negation 101 = .ok (.invokevirtual 282, 3) := by decide +kernel
theorem dX12_negation_104 : decode cX12_negation 104 = .ok (.aload_n 0, 1) := by decide +kernel
theorem dX12_negation_105 : decode cX12_negation 105 = .ok (.iconst 2, 1) := by decide +kernel
theorem dX12_negation_106 : decode cX12_negation 106 = .ok (.iload_n 1, 1) := by decide +kernel
theorem dX12_negation_107 : decode cX12_negation 107 = .ok (.invokevirtual 276, 3) := by decide +kernel
theorem dX12_negation_110 : decode cX12_negation 110 = .ok (.return_, 1) := by decide +kernel
theorem dX12_sum_0 : decode cX12_sum 0 = .ok (.aload_n 0, 1) := by decide +kernel
theorem dX12_sum_1 : decode cX12_sum 1 = .ok (.invokevirtual 285, 3) := by decide +kernel
theorem dX12_sum_4 : decode cX12_sum 4 = .ok (.aload_n 0, 1) := by decide +kernel
theorem dX12_sum_5 : decode cX12_sum 5 = .ok (.bipush 43, 2) := by decide +kernel
theorem dX12_sum_7 : decode cX12_sum 7 = .ok (.invokevirtual 255, 3) := by decide +kernel
theorem dX12_sum_10 : decode cX12_sum 10 = .ok (.ifCond .ne 12, 3) := by decide +kernel
theorem dX12_sum_13 : decode cX12_sum 13 = .ok (.aload_n 0, 1) := by decide +kernel
theorem dX12_sum_14 : decode cX12_sum 14 = .ok (.bipush 45, 2) := by decide +kernel
theorem dX12_sum_16 : decode cX12_sum 16 = .ok (.invokevirtual 255, 3) := by decide +kernel
theorem dX12_sum_19 : decode cX12_sum 19 = .ok (.ifCond .eq 29, 3) := by decide +kernel
theorem dX12_sum_22 : decode cX12_sum 22 = .ok (.aload_n 0, 1) := by decide +kernel
theorem dX12_sum_23 : decode cX12_sum 23 = .ok (.getfield 180, 3) := by decide +kernel
theorem dX12_sum_26 : decode cX12_sum 26 = .ok (.istore_n 1, 1) := by decide +kernel
theorem dX12_sum_27 : decode cX12_sum 27 = .ok (.aload_n 0, 1) := by decide +kernel
theorem dX12_sum_28 : decode cX12_sum 28 = .ok (.invokevirtual 273, 3) := by decide +kernel
theorem dX12_sum_31 : decode cX12_sum 31 = .ok (.aload_n 0, 1) := by decide +kernel
theorem dX12_sum_32 : decode cX12_sum 32 = .ok (.invokevirtual 225, 3) := by decide +kernel
theorem dX12_sum_35 : decode cX12_sum 35 = .ok (.aload_n 0, 1) := by decide +kernel
theorem dX12_sum_36 : decode cX12_sum 36 = .ok (.invokevirtual 285, 3) := by decide +kernel
theorem dX12_sum_39 : decode cX12_sum 39 = .ok (.aload_n 0, 1) := by decide +kernel
theorem dX12_sum_40 : decode cX12_sum 40 = .ok (.iconst 2, 1) := by decide +kernel
theorem dX12_sum_41 : decode cX12_sum 41 = .ok (.iload_n 1, 1) := by decide +kernel
theorem dX12_sum_42 : decode cX12_sum 42 = .ok (.invokevirtual 276, 3) := by decide +kernel
theorem dX12_sum_45 : decode cX12_sum 45 = .ok (.goto (-41), 3) := by decide +kernel
theorem dX12_sum_48 : decode cX12_sum 48 = .ok (.return_, 1) := by decide +kernel
theorem dX12_product_0 : decode cX12_product 0 = .ok (.aload_n 0, 1) := by decide +kernel
theorem dX12_product_1 : decode cX12_product 1 = .ok (.invokevirtual 288, 3) := by decide +kernel
theorem dX12_product_4 : decode cX12_product 4 = .ok (.aload_n 0, 1) := by decide +kernel
theorem dX12_product_5 : decode cX12_product 5 = .ok (.bipush 42, 2) := by decide +kernel
theorem dX12_product_7 : decode cX12_product 7 = .ok (.invokevirtual 255, 3) := by decide +kernel
theorem dX12_product_10 : decode cX12_product 10 = .ok (.ifCond .ne 12, 3) := by decide +kernel
theorem dX12_product_13 : decode cX12_product 13 = .ok (.aload_n 0, 1) := by decide +kernel
theorem dX12_product_14 : decode cX12_product 14 = .ok (.bipush 47, 2) := by decide +kernel
theorem dX12_product_16 : decode cX12_product 16 = .ok (.invokevirtual 255, 3) := by decide +kernel
theorem dX12_product_19 : decode cX12_product 19 = .ok (.ifCond .eq 29, 3) := by decide +kernel
theorem dX12_product_22 : decode cX12_product 22 = .ok (.aload_n 0, 1) := by decide +kernel
theorem dX12_product_23 : decode cX12_product 23 = .ok (.getfield 180, 3) := by decide +kernel
theorem dX12_product_26 : decode cX12_product 26 = .ok (.istore_n 1, 1) := by decide +kernel
theorem dX12_product_27 : decode cX12_product 27 = .ok (.aload_n 0, 1) := by decide +kernel
theorem dX12_product_28 : decode cX12_product 28 = .ok (.invokevirtual 273, 3) := by decide +kernel
theorem dX12_product_31 : decode cX12_product 31 = .ok (.aload_n 0, 1) := by decide +kernel
theorem dX12_product_32 : decode cX12_product 32 = .ok (.invokevirtual 225, 3) := by decide +kernel
theorem dX12_product_35 : decode cX12_product 35 = .ok (.aload_n 0, 1) := by decide +kernel
theorem dX12_product_36 : decode cX12_product 36 = .ok (.invokevirtual 288, 3) := by decide +kernel
theorem dX12_product_39 : decode cX12_product 39 = .ok (.aload_n 0, 1) := by decide +kernel
theorem dX12_product_40 : decode cX12_product 40 = .ok (.iconst 2, 1) := by decide +kernel
theorem dX12_product_41 : decode cX12_product 41 = .ok (.iload_n 1, 1) := by decide +kernel
theorem dX12_product_42 : decode cX12_product 42 = .ok (.invokevirtual 276, 3) := by decide +kernel
theorem dX12_product_45 : decode cX12_product 45 = .ok (.goto (-41), 3) := by decide +kernel
theorem dX12_product_48 : decode cX12_product 48 = .ok (.return_, 1) := by decide +kernel
theorem dX12_primary_0 : decode cX12_primary 0 = .ok (.aload_n 0, 1) := by decide +kernel
theorem dX12_primary_1 : decode cX12_primary 1 = .ok (.getfield 205, 3) := by decide +kernel
theorem dX12_primary_4 : decode cX12_primary 4 = .ok (.ifCond .eq 4, 3) := by decide +kernel
theorem dX12_primary_7 : decode cX12_primary 7 = .ok (.return_, 1) := by decide +kernel
theorem dX12_primary_8 : decode cX12_primary 8 = .ok (.aload_n 0, 1) := by decide +kernel
theorem dX12_primary_9 : decode cX12_primary 9 = .ok (.bipush 40, 2) := by decide +kernel
theorem dX12_primary_11 : decode cX12_primary 11 = .ok (.invokevirtual 255, 3) := by decide +kernel
theorem dX12_primary_14 : decode cX12_primary 14 = .ok (.ifCond .eq 87, 3) := by decide +kernel
theorem dX12_primary_17 : decode cX12_primary 17 = .ok (.aload_n 0, 1) := by decide +kernel
theorem dX12_primary_18 : decode cX12_primary 18 = .ok (.getfield 291, 3) := by decide +kernel
theorem dX12_primary_21 : decode cX12_primary 21 = .ok (.bipush 8, 2) := by decide +kernel
theorem dX12_primary_23 : decode cX12_primary 23 = .ok (.if_icmp .ne 8, 3) := by decide +kernel
theorem dX12_primary_26 : decode cX12_primary 26 = .ok (.aload_n 0, 1) := by decide +kernel
theorem dX12_primary_27 : decode cX12_primary 27 = .ok (.iconst 2, 1) := by decide +kernel
theorem dX12_primary_28 : decode cX12_primary 28 = .ok (.invokevirtual 214, 3) := by decide +kernel
theorem dX12_primary_31 : decode cX12_primary 31 = .ok (.aload_n 0, 1) := by decide +kernel
theorem dX12_primary_32 : decode cX12_primary 32 = .ok (.getfield 205, 3) := by decide +kernel
theorem dX12_primary_35 : decode cX12_primary 35 = .ok (.ifCond .eq 4, 3) := by decide +kernel
theorem dX12_primary_38 : decode cX12_primary 38 = .ok (.return_, 1) := by decide +kernel
theorem dX12_primary_39 : decode cX12_primary 39 = .ok (.aload_n 0, 1) := by decide +kernel
theorem dX12_primary_40 : decode cX12_primary 40 = .ok (.dup, 1) := by decide +kernel
theorem dX12_primary_41 : decode cX12_primary 41 = .ok (.getfield 291, 3) := by decide +kernel
theorem dX12_primary_44 : decode cX12_primary 44 = .ok (.iconst 1, 1) := by decide +kernel
theorem dX12_primary_45 : decode cX12_primary 45 = .ok (.iadd, 1) := by decide +kernel
theorem dX12_primary_46 : decode cX12_primary 46 = .ok (.putfield 291, 3) := by decide +kernel
theorem dX12_primary_49 : decode cX12_primary 49 = .ok (.aload_n 0, 1) := by decide +kernel
theorem dX12_primary_50 : decode cX12_primary 50 = .ok (.invokevirtual 211, 3) := by decide +kernel
theorem dX12_primary_53 : decode cX12_primary 53 = .ok (.aload_n 0, 1) := by decide +kernel
theorem dX12_primary_54 : decode cX12_primary 54 = .ok (.invokevirtual 261, 3) := by decide +kernel
theorem dX12_primary_57 : decode cX12_primary 57 = .ok (.aload_n 0, 1) := by decide +kernel
theorem dX12_primary_58 : decode cX12_primary 58 = .ok (.getfield 205, 3) := by decide +kernel
theorem dX12_primary_61 : decode cX12_primary 61 = .ok (.ifCond .ne 17, 3) := by decide +kernel
theorem dX12_primary_64 : decode cX12_primary 64 = .ok (.aload_n 0, 1) := by decide +kernel
theorem dX12_primary_65 : decode cX12_primary 65 = .ok (.bipush 41, 2) := by decide +kernel
theorem dX12_primary_67 : decode cX12_primary 67 = .ok (.invokevirtual 255, 3) := by decide +kernel
theorem dX12_primary_70 : decode cX12_primary 70 = .ok (.ifCond .ne 8, 3) := by decide +kernel
theorem dX12_primary_73 : decode cX12_primary 73 = .ok (.aload_n 0, 1) := by decide +kernel
theorem dX12_primary_74 : decode cX12_primary 74 = .ok (.iconst 1, 1) := by decide +kernel
theorem dX12_primary_75 : decode cX12_primary 75 = .ok (.invokevirtual 214, 3) := by decide +kernel
theorem dX12_primary_78 : decode cX12_primary 78 = .ok (.aload_n 0, 1) := by decide +kernel
theorem dX12_primary_79 : decode cX12_primary 79 = .ok (.getfield 205, 3) := by decide +kernel
theorem dX12_primary_82 : decode cX12_primary 82 = .ok (.ifCond .eq 4, 3) := by decide +kernel
theorem dX12_primary_85 : decode cX12_primary 85 = .ok (.return_, 1) := by decide +kernel
theorem dX12_primary_86 : decode cX12_primary 86 = .ok (.aload_n 0, 1) := by decide +kernel
theorem dX12_primary_87 : decode cX12_primary 87 = .ok (.dup, 1) := by decide +kernel
theorem dX12_primary_88 : decode cX12_primary 88 = .ok (.getfield 291, 3) := by decide +kernel
theorem dX12_primary_91 : decode cX12_primary 91 = .ok (.iconst 1, 1) := by decide +kernel
theorem dX12_primary_92 : decode cX12_primary 92 = .ok (.isub, 1) := by decide +kernel
theorem dX12_primary_93 : decode cX12_primary 93 = .ok (.putfield 291, 3) := by decide +kernel
theorem dX12_primary_96 : decode cX12_primary 96 = .ok (.aload_n 0, 1) := by decide +kernel
theorem dX12_primary_97 : decode cX12_primary 97 = .ok (.invokevirtual 211, 3) := by decide +kernel
theorem dX12_primary_100 : decode cX12_primary 100 = .ok (.return_, 1) := by decide +kernel
theorem dX12_primary_101 : decode cX12_primary 101 = .ok (.aload_n 0, 1) := by decide +kernel
theorem dX12_primary_102 : decode cX12_primary 102 = .ok (.getfield 170, 3) := by decide +kernel
theorem dX12_primary_105 : decode cX12_primary 105 = .ok (.iconst 2, 1) := by decide +kernel
theorem dX12_primary_106 : decode cX12_primary 106 = .ok (.if_icmp .ne 7, 3) := by decide +kernel
theorem dX12_primary_109 : decode cX12_primary 109 = .ok (.iconst 1, 1) := by decide +kernel
theorem dX12_primary_110 : decode cX12_primary 110 = .ok (.goto 4, 3) := by decide +kernel
theorem dX12_primary_113 : decode cX12_primary 113 = .ok (.iconst 0, 1) := by decide +kernel
theorem dX12_primary_114 : decode cX12_primary 114 = .ok (.istore_n 1, 1) := by decide +kernel
theorem dX12_primary_115 : decode cX12_primary 115 = .ok (.iload_n 1, 1) := by decide +kernel
theorem dX12_primary_116 : decode cX12_primary 116 = .ok (.ifCond .eq 21, 3) := by decide +kernel
theorem dX12_primary_119 : decode cX12_primary 119 = .ok (.aload_n 0, 1) := by decide +kernel
theorem dX12_primary_120 : decode cX12_primary 120 = .ok (.getfield 180, 3) := by decide +kernel
theorem dX12_primary_123 : decode cX12_primary 123 = .ok (.sipush 9999, 3) := by decide +kernel
theorem dX12_primary_126 : decode cX12_primary 126 = .ok (.if_icmp .le 11, 3) := by decide +kernel
theorem dX12_primary_129 : decode cX12_primary 129 = .ok (.aload_n 0, 1) := by decide +kernel
theorem dX12_primary_130 : decode cX12_primary 130 = .ok (.iconst 2, 1) := by decide +kernel
theorem dX12_primary_131 : decode cX12_primary 131 = .ok (.invokevirtual 214, 3) := by decide +kernel
theorem dX12_primary_134 : decode cX12_primary 134 = .ok (.goto 28, 3) := by decide +kernel
theorem dX12_primary_137 : decode cX12_primary 137 = .ok (.iload_n 1, 1) := by decide +kernel
theorem dX12_primary_138 : decode cX12_primary 138 = .ok (.ifCond .ne 24, 3) := by decide +kernel
theorem dX12_primary_141 : decode cX12_primary 141 = .ok (.aload_n 0, 1) := by decide +kernel
theorem dX12_primary_142 : decode cX12_primary 142 = .ok (.getfield 170, 3) := by decide +kernel
theorem dX12_primary_145 : decode cX12_primary 145 = .ok (.ifCond .ne 12, 3) := by decide +kernel
theorem dX12_primary_148 : decode cX12_primary 148 = .ok (.aload_n 0, 1) := by decide +kernel
theorem dX12_primary_149 : decode cX12_primary 149 = .ok (.getfield 180, 3) := by decide +kernel
theorem dX12_primary_152 : decode cX12_primary 152 = .ok (.bipush 13, 2) := by decide +kernel
theorem dX12_primary_154 : decode cX12_primary 154 = .ok (.if_icmp .ge 8, 3) := by decide +kernel
theorem dX12_primary_157 : decode cX12_primary 157 = .ok (.aload_n 0, 1) := by decide +kernel
theorem dX12_primary_158 : decode cX12_primary 158 = .ok (.iconst 1, 1) := by decide +kernel
theorem dX12_primary_159 : decode cX12_primary 159 = .ok (.invokevirtual 214, 3) := by decide +kernel
theorem dX12_primary_162 : decode cX12_primary 162 = .ok (.aload_n 0, 1) := by decide +kernel
theorem dX12_primary_163 : decode cX12_primary 163 = .ok (.invokevirtual 273, 3) := by decide +kernel
theorem dX12_primary_166 : decode cX12_primary 166 = .ok (.aload_n 0, 1) := by decide +kernel
theorem dX12_primary_167 : decode cX12_primary 167 = .ok (.iload_n 1, 1) := by decide +kernel
theorem dX12_primary_168 : decode cX12_primary 168 = .ok (.ifCond .eq 7, 3) := by decide +kernel
theorem dX12_primary_171 : decode cX12_primary 171 = .ok (.iconst 0, 1) := by decide +kernel
theorem dX12_primary_172 : decode cX12_primary 172 = .ok (.goto 4, 3) := by decide +kernel
theorem dX12_primary_175 : decode cX12_primary 175 = .ok (.iconst 1, 1) := by decide +kernel
theorem dX12_primary_176 : decode cX12_primary 176 = .ok (.iload_n 1, 1) := by decide +kernel
theorem dX12_primary_177 : decode cX12_primary 177 = .ok (.ifCond .eq 10, 3) := by decide +kernel
theorem dX12_primary_180 : decode cX12_primary 180 = .ok (.aload_n 0, 1) := by decide +kernel
theorem dX12_primary_181 : decode cX12_primary 181 = .ok (.getfield 180, 3) := by decide +kernel
theorem dX12_primary_184 : decode cX12_primary 184 = .ok (.goto 10, 3) := by decide +kernel
theorem dX12_primary_187 : decode cX12_primary 187 = .ok (.aload_n 0, 1) := by decide +kernel
theorem dX12_primary_188 : decode cX12_primary 188 = .ok (.getfield 180, 3) := by decide +kernel
theorem dX12_primary_191 : decode cX12_primary 191 = .ok (.bipush 13, 2) := by decide +kernel
theorem dX12_primary_193 : decode cX12_primary 193 = .ok (.isub, 1) := by decide +kernel
theorem dX12_primary_194 : decode cX12_primary 194 = .ok (.invokevirtual 276, 3) := by decide +kernel
theorem dX12_primary_197 : decode cX12_primary 197 = .ok (.aload_n 0, 1) := by decide +kernel
theorem dX12_primary_198 : decode cX12_primary 198 = .ok (.invokevirtual 225, 3) := by decide +kernel
theorem dX12_primary_201 : decode cX12_primary 201 = .ok (.return_, 1) := by decide +kernel
theorem dX12_half_0 : decode cX12_half 0 = .ok (.aload_n 0, 1) := by decide +kernel
theorem dX12_half_1 : decode cX12_half 1 = .ok (.arraylength, 1) := by decide +kernel
theorem dX12_half_2 : decode cX12_half 2 = .ok (.iconst 2, 1) := by decide +kernel
theorem dX12_half_3 : decode cX12_half 3 = .ok (.idiv, 1) := by decide +kernel
theorem dX12_half_4 : decode cX12_half 4 = .ok (.istore_n 1, 1) := by decide +kernel
theorem dX12_half_5 : decode cX12_half 5 = .ok (.iconst 0, 1) := by decide +kernel
theorem dX12_half_6 : decode cX12_half 6 = .ok (.istore_n 2, 1) := by decide +kernel
theorem dX12_half_7 : decode cX12_half 7 = .ok (.iload_n 2, 1) := by decide +kernel
theorem dX12_half_8 : decode cX12_half 8 = .ok (.iload_n 1, 1) := by decide +kernel
theorem dX12_half_9 : decode cX12_half 9 = .ok (.if_icmp .ge 17, 3) := by decide +kernel
theorem dX12_half_12 : decode cX12_half 12 = .ok (.aload_n 0, 1) := by decide +kernel
theorem dX12_half_13 : decode cX12_half 13 = .ok (.iload_n 2, 1) := by decide +kernel
theorem dX12_half_14 : decode cX12_half 14 = .ok (.aload_n 0, 1) := by decide +kernel
theorem dX12_half_15 : decode cX12_half 15 = .ok (.iload_n 1, 1) := by decide +kernel
theorem dX12_half_16 : decode cX12_half 16 = .ok (.iload_n 2, 1) := by decide +kernel
theorem dX12_half_17 : decode cX12_half 17 = .ok (.iadd, 1) := by decide +kernel
theorem dX12_half_18 : decode cX12_half 18 = .ok (.iaload, 1) := by decide +kernel
theorem dX12_half_19 : decode cX12_half 19 = .ok (.iastore, 1) := by decide +kernel
theorem dX12_half_20 : decode cX12_half 20 = .ok (.iinc 2 1, 3) := by decide +kernel
theorem dX12_half_23 : decode cX12_half 23 = .ok (.goto (-16), 3) := by decide +kernel
theorem dX12_half_26 : decode cX12_half 26 = .ok (.return_, 1) := by decide +kernel
theorem dX12_text_0 : decode cX12_text 0 = .ok (.aload_n 0, 1) := by decide +kernel
theorem dX12_text_1 : decode cX12_text 1 = .ok (.iconst 0, 1) := by decide +kernel
theorem dX12_text_2 : decode cX12_text 2 = .ok (.putfield 151, 3) := by decide +kernel
theorem dX12_text_5 : decode cX12_text 5 = .ok (.iload_n 1, 1) := by decide +kernel
theorem dX12_text_6 : decode cX12_text 6 = .ok (.ifCond .lt 11, 3) := by decide +kernel
theorem dX12_text_9 : decode cX12_text 9 = .ok (.iload_n 1, 1) := by decide +kernel
theorem dX12_text_10 : decode cX12_text 10 = .ok (.aload_n 0, 1) := by decide +kernel
theorem dX12_text_11 : decode cX12_text 11 = .ok (.getfield 154, 3) := by decide +kernel
theorem dX12_text_14 : decode cX12_text 14 = .ok (.if_icmp .le 6, 3) := by decide +kernel
theorem dX12_text_17 : decode cX12_text 17 = .ok (.bipush (-2), 2) := by decide +kernel
theorem dX12_text_19 : decode cX12_text 19 = .ok (.ireturn, 1) := by decide +kernel
theorem dX12_text_20 : decode cX12_text 20 = .ok (.aload_n 0, 1) := by decide +kernel
theorem dX12_text_21 : decode cX12_text 21 = .ok (.iload_n 1, 1) := by decide +kernel
theorem dX12_text_22 : decode cX12_text 22 = .ok (.putfield 160, 3) := by decide +kernel
theorem dX12_text_25 : decode cX12_text 25 = .ok (.aload_n 0, 1) := by decide +kernel
theorem dX12_text_26 : decode cX12_text 26 = .ok (.iconst 0, 1) := by decide +kernel
theorem dX12_text_27 : decode cX12_text 27 = .ok (.putfield 154, 3) := by decide +kernel
theorem dX12_text_30 : decode cX12_text 30 = .ok (.aload_n 0, 1) := by decide +kernel
theorem dX12_text_31 : decode cX12_text 31 = .ok (.iconst 0, 1) := by decide +kernel
theorem dX12_text_32 : decode cX12_text 32 = .ok (.putfield 157, 3) := by decide +kernel
theorem dX12_text_35 : decode cX12_text 35 = .ok (.aload_n 0, 1) := by decide +kernel
theorem dX12_text_36 : decode cX12_text 36 = .ok (.iconst 0, 1) := by decide +kernel
theorem dX12_text_37 : decode cX12_text 37 = .ok (.putfield 205, 3) := by decide +kernel
theorem dX12_text_40 : decode cX12_text 40 = .ok (.aload_n 0, 1) := by decide +kernel
theorem dX12_text_41 : decode cX12_text 41 = .ok (.iconst (-1), 1) := by decide +kernel
theorem dX12_text_42 : decode cX12_text 42 = .ok (.putfield 208, 3) := by decide +kernel
theorem dX12_text_45 : decode cX12_text 45 = .ok (.iconst 0, 1) := by decide +kernel
theorem dX12_text_46 : decode cX12_text 46 = .ok (.istore_n 2, 1) := by decide +kernel
theorem dX12_text_47 : decode cX12_text 47 = .ok (.iload_n 2, 1) := by decide +kernel
theorem dX12_text_48 : decode cX12_text 48 = .ok (.bipush 7, 2) := by decide +kernel
theorem dX12_text_50 : decode cX12_text 50 = .ok (.if_icmp .ge 15, 3) := by decide +kernel
theorem dX12_text_53 : decode cX12_text 53 = .ok (.aload_n 0, 1) := by decide +kernel
theorem dX12_text_54 : decode cX12_text 54 = .ok (.iload_n 2, 1) := by decide +kernel
theorem dX12_text_55 : decode cX12_text 55 = .ok (.iconst 0, 1) := by decide +kernel
theorem dX12_text_56 : decode cX12_text 56 = .ok (.invokevirtual 242, 3) := by decide +kernel
theorem dX12_text_59 : decode cX12_text 59 = .ok (.iinc 2 1, 3) := by decide +kernel
theorem dX12_text_62 : decode cX12_text 62 = .ok (.goto (-15), 3) := by decide +kernel
theorem dX12_text_65 : decode cX12_text 65 = .ok (.bipush 100, 2) := by decide +kernel
theorem dX12_text_67 : decode cX12_text 67 = .ok (.istore_n 2, 1) := by decide +kernel
theorem dX12_text_68 : decode cX12_text 68 = .ok (.iload_n 2, 1) := by decide +kernel
theorem dX12_text_69 : decode cX12_text 69 = .ok (.sipush 200, 3) := by decide +kernel
theorem dX12_text_72 : decode cX12_text 72 = .ok (.if_icmp .ge 16, 3) := by decide +kernel
theorem dX12_text_75 : decode cX12_text 75 = .ok (.aload_n 0, 1) := by decide +kernel
theorem dX12_text_76 : decode cX12_text 76 = .ok (.getfield 28, 3) := by decide +kernel
theorem dX12_text_79 : decode cX12_text 79 = .ok (.iload_n 2, 1) := by decide +kernel
theorem dX12_text_80 : decode cX12_text 80 = .ok (.iconst (-1), 1) := by decide +kernel
theorem dX12_text_81 : decode cX12_text 81 = .ok (.iastore, 1) := by decide +kernel
theorem dX12_text_82 : decode cX12_text 82 = .ok (.iinc 2 1, 3) := by decide +kernel
theorem dX12_text_85 : decode cX12_text 85 = .ok (.goto (-17), 3) := by decide +kernel
theorem dX12_text_88 : decode cX12_text 88 = .ok (.iconst 3, 1) := by decide +kernel
theorem dX12_text_89 : decode cX12_text 89 = .ok (.istore_n 2, 1) := by decide +kernel
theorem dX12_text_90 : decode cX12_text 90 = .ok (.iload_n 2, 1) := by decide +kernel
theorem dX12_text_91 : decode cX12_text 91 = .ok (.bipush 6, 2) := by decide +kernel
theorem dX12_text_93 : decode cX12_text 93 = .ok (.if_icmp .ge 23, 3) := by decide +kernel
theorem dX12_text_96 : decode cX12_text 96 = .ok (.aload_n 0, 1) := by decide +kernel
theorem dX12_text_97 : decode cX12_text 97 = .ok (.getfield 43, 3) := by decide +kernel
theorem dX12_text_100 : decode cX12_text 100 = .ok (.iload_n 2, 1) := by decide +kernel
theorem dX12_text_101 : decode cX12_text 101 = .ok (.iconst 0, 1) := by decide +kernel
theorem dX12_text_102 : decode cX12_text 102 = .ok (.iastore, 1) := by decide +kernel
theorem dX12_text_103 : decode cX12_text 103 = .ok (.aload_n 0, 1) := by decide +kernel
theorem dX12_text_104 : decode cX12_text 104 = .ok (.getfield 46, 3) := by decide +kernel
theorem dX12_text_107 : decode cX12_text 107 = .ok (.iload_n 2, 1) := by decide +kernel
theorem dX12_text_108 : decode cX12_text 108 = .ok (.iconst 0, 1) := by decide +kernel
theorem dX12_text_109 : decode cX12_text 109 = .ok (.iastore, 1) := by decide +kernel
theorem dX12_text_110 : decode cX12_text 110 = .ok (.iinc 2 1, 3) := by decide +kernel
theorem dX12_text_113 : decode cX12_text 113 = .ok (.goto (-23), 3) := by decide +kernel
theorem dX12_text_116 : decode cX12_text 116 = .ok (.aload_n 0, 1) := by decide +kernel
theorem dX12_text_117 : decode cX12_text 117 = .ok (.iconst 0, 1) := by decide +kernel
theorem dX12_text_118 : decode cX12_text 118 = .ok (.putfield 231, 3) := by decide +kernel
theorem dX12_text_121 : decode cX12_text 121 = .ok (.aload_n 0, 1) := by decide +kernel
theorem dX12_text_122 : decode cX12_text 122 = .ok (.iconst 0, 1) := by decide +kernel
theorem dX12_text_123 : decode cX12_text 123 = .ok (.putfield 258, 3) := by decide +kernel
theorem dX12_text_126 : decode cX12_text 126 = .ok (.aload_n 0, 1) := by decide +kernel
theorem dX12_text_127 : decode cX12_text 127 = .ok (.iconst 0, 1) := by decide +kernel
theorem dX12_text_128 : decode cX12_text 128 = .ok (.putfield 291, 3) := by decide +kernel
theorem dX12_text_131 : decode cX12_text 131 = .ok (.aload_n 0, 1) := by decide +kernel
theorem dX12_text_132 : decode cX12_text 132 = .ok (.iconst 0, 1) := by decide +kernel
theorem dX12_text_133 : decode cX12_text 133 = .ok (.putfield 264, 3) := by decide +kernel
theorem dX12_text_136 : decode cX12_text 136 = .ok (.aload_n 0, 1) := by decide +kernel
theorem dX12_text_137 : decode cX12_text 137 = .ok (.invokevirtual 211, 3) := by decide +kernel
theorem dX12_text_140 : decode cX12_text 140 = .ok (.aload_n 0, 1) := by decide +kernel
theorem dX12_text_141 : decode cX12_text 141 = .ok (.getfield 205, 3) := by decide +kernel
theorem dX12_text_144 : decode cX12_text 144 = .ok (.ifCond .ne 18, 3) := by decide +kernel
theorem dX12_text_147 : decode cX12_text 147 = .ok (.aload_n 0, 1) := by decide +kernel
theorem dX12_text_148 : decode cX12_text 148 = .ok (.getfield 170, 3) := by decide +kernel
theorem dX12_text_151 : decode cX12_text 151 = .ok (.iconst 4, 1) := by decide +kernel
theorem dX12_text_152 : decode cX12_text 152 = .ok (.if_icmp .eq 10, 3) := by decide +kernel
theorem dX12_text_155 : decode cX12_text 155 = .ok (.aload_n 0, 1) := by decide +kernel
theorem dX12_text_156 : decode cX12_text 156 = .ok (.invokevirtual 294, 3) := by decide +kernel
theorem dX12_text_159 : decode cX12_text 159 = .ok (.goto (-19), 3) := by decide +kernel
theorem dX12_text_162 : decode cX12_text 162 = .ok (.aload_n 0, 1) := by decide +kernel
theorem dX12_text_163 : decode cX12_text 163 = .ok (.aload_n 0, 1) := by decide +kernel
theorem dX12_text_164 : decode cX12_text 164 = .ok (.getfield 205, 3) := by decide +kernel
theorem dX12_text_167 : decode cX12_text 167 = .ok (.putfield 297, 3) := by decide +kernel
theorem dX12_text_170 : decode cX12_text 170 = .ok (.aload_n 0, 1) := by decide +kernel
theorem dX12_text_171 : decode cX12_text 171 = .ok (.aload_n 0, 1) := by decide +kernel
theorem dX12_text_172 : decode cX12_text 172 = .ok (.getfield 208, 3) := by decide +kernel
theorem dX12_text_175 : decode cX12_text 175 = .ok (.putfield 55, 3) := by decide +kernel
theorem dX12_text_178 : decode cX12_text 178 = .ok (.aload_n 0, 1) := by decide +kernel
theorem dX12_text_179 : decode cX12_text 179 = .ok (.getfield 205, 3) := by decide +kernel
theorem dX12_text_182 : decode cX12_text 182 = .ok (.ifCond .eq 5, 3) := by decide +kernel
theorem dX12_text_185 : decode cX12_text 185 = .ok (.iconst (-1), 1) := by decide +kernel
theorem dX12_text_186 : decode cX12_text 186 = .ok (.ireturn, 1) := by decide +kernel
theorem dX12_text_187 : decode cX12_text 187 = .ok (.aload_n 0, 1) := by decide +kernel
theorem dX12_text_188 : decode cX12_text 188 = .ok (.getfield 13, 3) := by decide +kernel
theorem dX12_text_191 : decode cX12_text 191 = .ok (.invokestatic 300, 3) := by decide +kernel
theorem dX12_text_194 : decode cX12_text 194 = .ok (.aload_n 0, 1) := by decide +kernel
theorem dX12_text_195 : decode cX12_text 195 = .ok (.getfield 16, 3) := by decide +kernel
theorem dX12_text_198 : decode cX12_text 198 = .ok (.invokestatic 300, 3) := by decide +kernel
theorem dX12_text_201 : decode cX12_text 201 = .ok (.aload_n 0, 1) := by decide +kernel
theorem dX12_text_202 : decode cX12_text 202 = .ok (.getfield 19, 3) := by decide +kernel
theorem dX12_text_205 : decode cX12_text 205 = .ok (.invokestatic 300, 3) := by decide +kernel
theorem dX12_text_208 : decode cX12_text 208 = .ok (.aload_n 0, 1) := by decide +kernel
theorem dX12_text_209 : decode cX12_text 209 = .ok (.getfield 22, 3) := by decide +kernel
theorem dX12_text_212 : decode cX12_text 212 = .ok (.invokestatic 300, 3) := by decide +kernel
theorem dX12_text_215 : decode cX12_text 215 = .ok (.aload_n 0, 1) := by decide +kernel
theorem dX12_text_216 : decode cX12_text 216 = .ok (.getfield 25, 3) := by decide +kernel
theorem dX12_text_219 : decode cX12_text 219 = .ok (.invokestatic 300, 3) := by decide +kernel
theorem dX12_text_222 : decode cX12_text 222 = .ok (.aload_n 0, 1) := by decide +kernel
theorem dX12_text_223 : decode cX12_text 223 = .ok (.getfield 28, 3) := by decide +kernel
theorem dX12_text_226 : decode cX12_text 226 = .ok (.invokestatic 300, 3) := by decide +kernel
theorem dX12_text_229 : decode cX12_text 229 = .ok (.aload_n 0, 1) := by decide +kernel
theorem dX12_text_230 : decode cX12_text 230 = .ok (.getfield 31, 3) := by decide +kernel
theorem dX12_text_233 : decode cX12_text 233 = .ok (.invokestatic 300, 3) := by decide +kernel
theorem dX12_text_236 : decode cX12_text 236 = .ok (.aload_n 0, 1) := by decide +kernel
theorem dX12_text_237 : decode cX12_text 237 = .ok (.getfield 34, 3) := by decide +kernel
theorem dX12_text_240 : decode cX12_text 240 = .ok (.invokestatic 300, 3) := by decide +kernel
theorem dX12_text_243 : decode cX12_text 243 = .ok (.aload_n 0, 1) := by decide +kernel
theorem dX12_text_244 : decode cX12_text 244 = .ok (.getfield 37, 3) := by decide +kernel
theorem dX12_text_247 : decode cX12_text 247 = .ok (.invokestatic 300, 3) := by decide +kernel
theorem dX12_text_250 : decode cX12_text 250 = .ok (.aload_n 0, 1) := by decide +kernel
theorem dX12_text_251 : decode cX12_text 251 = .ok (.getfield 40, 3) := by decide +kernel
theorem dX12_text_254 : decode cX12_text 254 = .ok (.invokestatic 300, 3) := by decide +kernel
theorem dX12_text_257 : decode cX12_text 257 = .ok (.aload_n 0, 1) := by decide +kernel
theorem dX12_text_258 : decode cX12_text 258 = .ok (.getfield 43, 3) := by decide +kernel
theorem dX12_text_261 : decode cX12_text 261 = .ok (.invokestatic 300, 3) := by decide +kernel
theorem dX12_text_264 : decode cX12_text 264 = .ok (.aload_n 0, 1) := by decide +kernel
theorem dX12_text_265 : decode cX12_text 265 = .ok (.getfield 46, 3) := by decide +kernel
theorem dX12_text_268 : decode cX12_text 268 = .ok (.invokestatic 300, 3) := by decide +kernel
theorem dX12_text_271 : decode cX12_text 271 = .ok (.aload_n 0, 1) := by decide +kernel
theorem dX12_text_272 : decode cX12_text 272 = .ok (.getfield 49, 3) := by decide +kernel
theorem dX12_text_275 : decode cX12_text 275 = .ok (.invokestatic 300, 3) := by decide +kernel
theorem dX12_text_278 : decode cX12_text 278 = .ok (.aload_n 0, 1) := by decide +kernel
theorem dX12_text_279 : decode cX12_text 279 = .ok (.getfield 52, 3) := by decide +kernel
theorem dX12_text_282 : decode cX12_text 282 = .ok (.invokestatic 300, 3) := by decide +kernel
theorem dX12_text_285 : decode cX12_text 285 = .ok (.aload_n 0, 1) := by decide +kernel
theorem dX12_text_286 : decode cX12_text 286 = .ok (.iconst 0, 1) := by decide +kernel
theorem dX12_text_287 : decode cX12_text 287 = .ok (.putfield 304, 3) := by decide +kernel
theorem dX12_text_290 : decode cX12_text 290 = .ok (.aload_n 0, 1) := by decide +kernel
theorem dX12_text_291 : decode cX12_text 291 = .ok (.iconst (-1), 1) := by decide +kernel
theorem dX12_text_292 : decode cX12_text 292 = .ok (.putfield 126, 3) := by decide +kernel
theorem dX12_text_295 : decode cX12_text 295 = .ok (.aload_n 0, 1) := by decide +kernel
theorem dX12_text_296 : decode cX12_text 296 = .ok (.iconst 0, 1) := by decide +kernel
theorem dX12_text_297 : decode cX12_text 297 = .ok (.putfield 307, 3) := by decide +kernel
theorem dX12_text_300 : decode cX12_text 300 = .ok (.aload_n 0, 1) := by decide +kernel
theorem dX12_text_301 : decode cX12_text 301 = .ok (.iconst 0, 1) := by decide +kernel
theorem dX12_text_302 : decode cX12_text 302 = .ok (.putfield 311, 3) := by decide +kernel
theorem dX12_text_305 : decode cX12_text 305 = .ok (.aload_n 0, 1) := by decide +kernel
theorem dX12_text_306 : decode cX12_text 306 = .ok (.invokevirtual 148, 3) := by decide +kernel
theorem dX12_text_309 : decode cX12_text 309 = .ok (.aload_n 0, 1) := by decide +kernel
theorem dX12_text_310 : decode cX12_text 310 = .ok (.getfield 258, 3) := by decide +kernel
theorem dX12_text_313 : decode cX12_text 313 = .ok (.ireturn, 1) := by decide +kernel
theorem dX12_fault_0 : decode cX12_fault 0 = .ok (.aload_n 0, 1) := by decide +kernel
theorem dX12_fault_1 : decode cX12_fault 1 = .ok (.iconst 0, 1) := by decide +kernel
theorem dX12_fault_2 : decode cX12_fault 2 = .ok (.putfield 151, 3) := by decide +kernel
theorem dX12_fault_5 : decode cX12_fault 5 = .ok (.iload_n 1, 1) := by decide +kernel
theorem dX12_fault_6 : decode cX12_fault 6 = .ok (.ifCond .ne 10, 3) := by decide +kernel
theorem dX12_fault_9 : decode cX12_fault 9 = .ok (.aload_n 0, 1) := by decide +kernel
theorem dX12_fault_10 : decode cX12_fault 10 = .ok (.getfield 297, 3) := by decide +kernel
theorem dX12_fault_13 : decode cX12_fault 13 = .ok (.goto 16, 3) := by decide +kernel
theorem dX12_fault_16 : decode cX12_fault 16 = .ok (.iload_n 1, 1) := by decide +kernel
theorem dX12_fault_17 : decode cX12_fault 17 = .ok (.iconst 1, 1) := by decide +kernel
theorem dX12_fault_18 : decode cX12_fault 18 = .ok (.if_icmp .ne 10, 3) := by decide +kernel
theorem dX12_fault_21 : decode cX12_fault 21 = .ok (.aload_n 0, 1) := by decide +kernel
theorem dX12_fault_22 : decode cX12_fault 22 = .ok (.getfield 55, 3) := by decide +kernel
theorem dX12_fault_25 : decode cX12_fault 25 = .ok (.goto 4, 3) := by decide +kernel
theorem dX12_fault_28 : decode cX12_fault 28 = .ok (.iconst (-1), 1) := by decide +kernel
theorem dX12_fault_29 : decode cX12_fault 29 = .ok (.ireturn, 1) := by decide +kernel
theorem dX12_named_0 : decode cX12_named 0 = .ok (.aload_n 0, 1) := by decide +kernel
theorem dX12_named_1 : decode cX12_named 1 = .ok (.iconst 0, 1) := by decide +kernel
theorem dX12_named_2 : decode cX12_named 2 = .ok (.putfield 151, 3) := by decide +kernel
theorem dX12_named_5 : decode cX12_named 5 = .ok (.iload_n 1, 1) := by decide +kernel
theorem dX12_named_6 : decode cX12_named 6 = .ok (.ifCond .ne 21, 3) := by decide +kernel
theorem dX12_named_9 : decode cX12_named 9 = .ok (.aload_n 0, 1) := by decide +kernel
theorem dX12_named_10 : decode cX12_named 10 = .ok (.getfield 16, 3) := by decide +kernel
theorem dX12_named_13 : decode cX12_named 13 = .ok (.iconst 0, 1) := by decide +kernel
theorem dX12_named_14 : decode cX12_named 14 = .ok (.aload_n 0, 1) := by decide +kernel
theorem dX12_named_15 : decode cX12_named 15 = .ok (.getfield 13, 3) := by decide +kernel
theorem dX12_named_18 : decode cX12_named 18 = .ok (.iconst 0, 1) := by decide +kernel
theorem dX12_named_19 : decode cX12_named 19 = .ok (.iaload, 1) := by decide +kernel
theorem dX12_named_20 : decode cX12_named 20 = .ok (.iload_n 2, 1) := by decide +kernel
theorem dX12_named_21 : decode cX12_named 21 = .ok (.invokestatic 217, 3) := by decide +kernel
theorem dX12_named_24 : decode cX12_named 24 = .ok (.goto 27, 3) := by decide +kernel
theorem dX12_named_27 : decode cX12_named 27 = .ok (.iload_n 1, 1) := by decide +kernel
theorem dX12_named_28 : decode cX12_named 28 = .ok (.iconst 1, 1) := by decide +kernel
theorem dX12_named_29 : decode cX12_named 29 = .ok (.if_icmp .ne 21, 3) := by decide +kernel
theorem dX12_named_32 : decode cX12_named 32 = .ok (.aload_n 0, 1) := by decide +kernel
theorem dX12_named_33 : decode cX12_named 33 = .ok (.getfield 31, 3) := by decide +kernel
theorem dX12_named_36 : decode cX12_named 36 = .ok (.iconst 0, 1) := by decide +kernel
theorem dX12_named_37 : decode cX12_named 37 = .ok (.aload_n 0, 1) := by decide +kernel
theorem dX12_named_38 : decode cX12_named 38 = .ok (.getfield 13, 3) := by decide +kernel
theorem dX12_named_41 : decode cX12_named 41 = .ok (.iconst 3, 1) := by decide +kernel
theorem dX12_named_42 : decode cX12_named 42 = .ok (.iaload, 1) := by decide +kernel
theorem dX12_named_43 : decode cX12_named 43 = .ok (.iload_n 2, 1) := by decide +kernel
theorem dX12_named_44 : decode cX12_named 44 = .ok (.invokestatic 217, 3) := by decide +kernel
theorem dX12_named_47 : decode cX12_named 47 = .ok (.goto 4, 3) := by decide +kernel
theorem dX12_named_50 : decode cX12_named 50 = .ok (.iconst (-1), 1) := by decide +kernel
theorem dX12_named_51 : decode cX12_named 51 = .ok (.ireturn, 1) := by decide +kernel
theorem dX12_is_0 : decode cX12_is 0 = .ok (.iload_n 0, 1) := by decide +kernel
theorem dX12_is_1 : decode cX12_is 1 = .ok (.ifCond .eq 7, 3) := by decide +kernel
theorem dX12_is_4 : decode cX12_is 4 = .ok (.lconst 1, 1) := by decide +kernel
theorem dX12_is_5 : decode cX12_is 5 = .ok (.goto 4, 3) := by decide +kernel
theorem dX12_is_8 : decode cX12_is 8 = .ok (.lconst 0, 1) := by decide +kernel
theorem dX12_is_9 : decode cX12_is 9 = .ok (.lreturn, 1) := by decide +kernel
theorem dX12_works_0 : decode cX12_works 0 = .ok (.aload_n 0, 1) := by decide +kernel
theorem dX12_works_1 : decode cX12_works 1 = .ok (.getfield 63, 3) := by decide +kernel
theorem dX12_works_4 : decode cX12_works 4 = .ok (.aload_n 0, 1) := by decide +kernel
theorem dX12_works_5 : decode cX12_works 5 = .ok (.getfield 314, 3) := by decide +kernel
theorem dX12_works_8 : decode cX12_works 8 = .ok (.iconst 1, 1) := by decide +kernel
theorem dX12_works_9 : decode cX12_works 9 = .ok (.isub, 1) := by decide +kernel
theorem dX12_works_10 : decode cX12_works 10 = .ok (.laload, 1) := by decide +kernel
theorem dX12_works_11 : decode cX12_works 11 = .ok (.lstore_n 2, 1) := by decide +kernel
theorem dX12_works_12 : decode cX12_works 12 = .ok (.iload_n 1, 1) := by decide +kernel
theorem dX12_works_13 : decode cX12_works 13 = .ok (.sipush 260, 3) := by decide +kernel
theorem dX12_works_16 : decode cX12_works 16 = .ok (.if_icmp .ne 30, 3) := by decide +kernel
theorem dX12_works_19 : decode cX12_works 19 = .ok (.aload_n 0, 1) := by decide +kernel
theorem dX12_works_20 : decode cX12_works 20 = .ok (.getfield 63, 3) := by decide +kernel
theorem dX12_works_23 : decode cX12_works 23 = .ok (.aload_n 0, 1) := by decide +kernel
theorem dX12_works_24 : decode cX12_works 24 = .ok (.getfield 314, 3) := by decide +kernel
theorem dX12_works_27 : decode cX12_works 27 = .ok (.iconst 1, 1) := by decide +kernel
theorem dX12_works_28 : decode cX12_works 28 = .ok (.isub, 1) := by decide +kernel
theorem dX12_works_29 : decode cX12_works 29 = .ok (.lload_n 2, 1) := by decide +kernel
theorem dX12_works_30 : decode cX12_works 30 = .ok (.lconst 0, 1) := by decide +kernel
theorem dX12_works_31 : decode cX12_works 31 = .ok (.lcmp, 1) := by decide +kernel
theorem dX12_works_32 : decode cX12_works 32 = .ok (.ifCond .ne 7, 3) := by decide +kernel
theorem dX12_works_35 : decode cX12_works 35 = .ok (.iconst 1, 1) := by decide +kernel
theorem dX12_works_36 : decode cX12_works 36 = .ok (.goto 4, 3) := by decide +kernel
theorem dX12_works_39 : decode cX12_works 39 = .ok (.iconst 0, 1) := by decide +kernel
theorem dX12_works_40 : decode cX12_works 40 = .ok (.invokestatic 317, 3) := by decide +kernel
theorem dX12_works_43 : decode cX12_works 43 = .ok (.lastore, 1) := by decide +kernel
theorem dX12_works_44 : decode cX12_works 44 = .ok (.iconst 1, 1) := by decide +kernel
theorem dX12_works_45 : decode cX12_works 45 = .ok (.ireturn, 1) := by decide +kernel
theorem dX12_works_46 : decode cX12_works 46 = .ok (.aload_n 0, 1) := by decide +kernel
theorem dX12_works_47 : decode cX12_works 47 = .ok (.getfield 63, 3) := by decide +kernel
theorem dX12_works_50 : decode cX12_works 50 = .ok (.aload_n 0, 1) := by decide +kernel
theorem dX12_works_51 : decode cX12_works 51 = .ok (.getfield 314, 3) := by decide +kernel
theorem dX12_works_54 : decode cX12_works 54 = .ok (.iconst 2, 1) := by decide +kernel
theorem dX12_works_55 : decode cX12_works 55 = .ok (.isub, 1) := by decide +kernel
theorem dX12_works_56 : decode cX12_works 56 = .ok (.laload, 1) := by decide +kernel
theorem dX12_works_57 : decode cX12_works 57 = .ok (.lstore 4, 2) := by decide +kernel
theorem dX12_works_59 : decode cX12_works 59 = .ok (.aload_n 0, 1) := by decide +kernel
theorem dX12_works_60 : decode cX12_works 60 = .ok (.dup, 1) := by decide +kernel
theorem dX12_works_61 : decode cX12_works 61 = .ok (.getfield 314, 3) := by decide +kernel
theorem dX12_works_64 : decode cX12_works 64 = .ok (.iconst 1, 1) := by decide +kernel
theorem dX12_works_65 : decode cX12_works 65 = .ok (.isub, 1) := by decide +kernel
theorem dX12_works_66 : decode cX12_works 66 = .ok (.putfield 314, 3) := by decide +kernel
theorem dX12_works_69 : decode cX12_works 69 = .ok (.iload_n 1, 1) := by decide +kernel
theorem dX12_works_70 : decode cX12_works 70 = .ok (.lookupswitch 314 #[(42, 116), (43, 98), (45, 107), (47, 151), (60, 168), (61, 208), (62, 188), (256, 228), (257, 268), (258, 248), (261, 288)], 98) := by decide +kernel
theorem dX12_works_168 : decode cX12_works 168 = .ok (.lload 4, 2) := by decide +kernel
theorem dX12_works_170 : decode cX12_works 170 = .ok (.lload_n 2, 1) := by decide +kernel
theorem dX12_works_171 : decode cX12_works 171 = .ok (.ladd, 1) := by decide +kernel
theorem dX12_works_172 : decode cX12_works 172 = .ok (.lstore 6, 2) := by decide +kernel
theorem dX12_works_174 : decode cX12_works 174 = .ok (.goto 233, 3) := by decide +kernel
theorem dX12_works_177 : decode cX12_works 177 = .ok (.lload 4, 2) := by decide +kernel
theorem dX12_works_179 : decode cX12_works 179 = .ok (.lload_n 2, 1) := by decide +kernel
theorem dX12_works_180 : decode cX12_works 180 = .ok (.lsub, 1) := by decide +kernel
theorem dX12_works_181 : decode cX12_works 181 = .ok (.lstore 6, 2) := by decide +kernel
theorem dX12_works_183 : decode cX12_works 183 = .ok (.goto 224, 3) := by decide +kernel
theorem dX12_works_186 : decode cX12_works 186 = .ok (.lload 4, 2) := by decide +kernel
theorem dX12_works_188 : decode cX12_works 188 = .ok (.lconst 0, 1) := by decide +kernel
theorem dX12_works_189 : decode cX12_works 189 = .ok (.lcmp, 1) := by decide +kernel
theorem dX12_works_190 : decode cX12_works 190 = .ok (.ifCond .eq 22, 3) := by decide +kernel
theorem dX12_works_193 : decode cX12_works 193 = .ok (.lload_n 2, 1) := by decide +kernel
theorem dX12_works_194 : decode cX12_works 194 = .ok (.invokestatic 321, 3) := by decide +kernel
theorem dX12_works_197 : decode cX12_works 197 = .ok (.ldc2_w 327, 3) := by decide +kernel
theorem dX12_works_200 : decode cX12_works 200 = .ok (.lload 4, 2) := by decide +kernel
theorem dX12_works_202 : decode cX12_works 202 = .ok (.invokestatic 321, 3) := by decide +kernel
theorem dX12_works_205 : decode cX12_works 205 = .ok (.ldiv, 1) := by decide +kernel
theorem dX12_works_206 : decode cX12_works 206 = .ok (.lcmp, 1) := by decide +kernel
theorem dX12_works_207 : decode cX12_works 207 = .ok (.ifCond .le 5, 3) := by decide +kernel
theorem dX12_works_210 : decode cX12_works 210 = .ok (.iconst 0, 1) := by decide +kernel
theorem dX12_works_211 : decode cX12_works 211 = .ok (.ireturn, 1) := by decide +kernel
theorem dX12_works_212 : decode cX12_works 212 = .ok (.lload 4, 2) := by decide +kernel
theorem dX12_works_214 : decode cX12_works 214 = .ok (.lload_n 2, 1) := by decide +kernel
theorem dX12_works_215 : decode cX12_works 215 = .ok (.lmul, 1) := by decide +kernel
theorem dX12_works_216 : decode cX12_works 216 = .ok (.lstore 6, 2) := by decide +kernel
theorem dX12_works_218 : decode cX12_works 218 = .ok (.goto 189, 3) := by decide +kernel
theorem dX12_works_221 : decode cX12_works 221 = .ok (.lload_n 2, 1) := by decide +kernel
theorem dX12_works_222 : decode cX12_works 222 = .ok (.lconst 0, 1) := by decide +kernel
theorem dX12_works_223 : decode cX12_works 223 = .ok (.lcmp, 1) := by decide +kernel
theorem dX12_works_224 : decode cX12_works 224 = .ok (.ifCond .ne 5, 3) := by decide +kernel
theorem dX12_works_227 : decode cX12_works 227 = .ok (.iconst 0, 1) := by decide +kernel
theorem dX12_works_228 : decode cX12_works 228 = .ok (.ireturn, 1) := by decide +kernel
