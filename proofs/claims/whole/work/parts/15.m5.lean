/-! decompiled: X7_init, X7_in, X7_min, X7_has, X7_isPlace, X7_isGate, X7_isHour, X7_places, X7_sky, X7_gate, X7_of, X7_feed, X7_next, X7_second, X7_takesSign, X7_takesWord, X7_isDigit, X7_takesNumber, X7_put, X7_whole -/
theorem dX7_init_0 : decode cX7_init 0 = .ok (.aload_n 0, 1) := by decide +kernel
theorem dX7_init_1 : decode cX7_init 1 = .ok (.invokespecial 1, 3) := by decide +kernel
theorem dX7_init_4 : decode cX7_init 4 = .ok (.aload_n 0, 1) := by decide +kernel
theorem dX7_init_5 : decode cX7_init 5 = .ok (.iconst 3, 1) := by decide +kernel
theorem dX7_init_6 : decode cX7_init 6 = .ok (.putfield 7, 3) := by decide +kernel
theorem dX7_init_9 : decode cX7_init 9 = .ok (.aload_n 0, 1) := by decide +kernel
theorem dX7_init_10 : decode cX7_init 10 = .ok (.bipush 10, 2) := by decide +kernel
theorem dX7_init_12 : decode cX7_init 12 = .ok (.putfield 13, 3) := by decide +kernel
theorem dX7_init_15 : decode cX7_init 15 = .ok (.aload_n 0, 1) := by decide +kernel
theorem dX7_init_16 : decode cX7_init 16 = .ok (.iconst 0, 1) := by decide +kernel
theorem dX7_init_17 : decode cX7_init 17 = .ok (.putfield 16, 3) := by decide +kernel
theorem dX7_init_20 : decode cX7_init 20 = .ok (.aload_n 0, 1) := by decide +kernel
theorem dX7_init_21 : decode cX7_init 21 = .ok (.iconst 2, 1) := by decide +kernel
theorem dX7_init_22 : decode cX7_init 22 = .ok (.newarray .int, 2) := by decide +kernel
theorem dX7_init_24 : decode cX7_init 24 = .ok (.putfield 19, 3) := by decide +kernel
theorem dX7_init_27 : decode cX7_init 27 = .ok (.aload_n 0, 1) := by decide +kernel
theorem dX7_init_28 : decode cX7_init 28 = .ok (.iconst 5, 1) := by decide +kernel
theorem dX7_init_29 : decode cX7_init 29 = .ok (.newarray .int, 2) := by decide +kernel
theorem dX7_init_31 : decode cX7_init 31 = .ok (.putfield 23, 3) := by decide +kernel
theorem dX7_init_34 : decode cX7_init 34 = .ok (.aload_n 0, 1) := by decide +kernel
theorem dX7_init_35 : decode cX7_init 35 = .ok (.iconst 5, 1) := by decide +kernel
theorem dX7_init_36 : decode cX7_init 36 = .ok (.newarray .int, 2) := by decide +kernel
theorem dX7_init_38 : decode cX7_init 38 = .ok (.putfield 26, 3) := by decide +kernel
theorem dX7_init_41 : decode cX7_init 41 = .ok (.aload_n 0, 1) := by decide +kernel
theorem dX7_init_42 : decode cX7_init 42 = .ok (.iconst 5, 1) := by decide +kernel
theorem dX7_init_43 : decode cX7_init 43 = .ok (.newarray .int, 2) := by decide +kernel
theorem dX7_init_45 : decode cX7_init 45 = .ok (.putfield 29, 3) := by decide +kernel
theorem dX7_init_48 : decode cX7_init 48 = .ok (.aload_n 0, 1) := by decide +kernel
theorem dX7_init_49 : decode cX7_init 49 = .ok (.iconst 0, 1) := by decide +kernel
theorem dX7_init_50 : decode cX7_init 50 = .ok (.putfield 32, 3) := by decide +kernel
theorem dX7_init_53 : decode cX7_init 53 = .ok (.aload_n 0, 1) := by decide +kernel
theorem dX7_init_54 : decode cX7_init 54 = .ok (.iconst (-1), 1) := by decide +kernel
theorem dX7_init_55 : decode cX7_init 55 = .ok (.putfield 35, 3) := by decide +kernel
theorem dX7_init_58 : decode cX7_init 58 = .ok (.aload_n 0, 1) := by decide +kernel
theorem dX7_init_59 : decode cX7_init 59 = .ok (.iconst 0, 1) := by decide +kernel
theorem dX7_init_60 : decode cX7_init 60 = .ok (.putfield 38, 3) := by decide +kernel
theorem dX7_init_63 : decode cX7_init 63 = .ok (.aload_n 0, 1) := by decide +kernel
theorem dX7_init_64 : decode cX7_init 64 = .ok (.iconst 0, 1) := by decide +kernel
theorem dX7_init_65 : decode cX7_init 65 = .ok (.putfield 41, 3) := by decide +kernel
theorem dX7_init_68 : decode cX7_init 68 = .ok (.aload_n 0, 1) := by decide +kernel
theorem dX7_init_69 : decode cX7_init 69 = .ok (.iconst 0, 1) := by decide +kernel
theorem dX7_init_70 : decode cX7_init 70 = .ok (.putfield 44, 3) := by decide +kernel
theorem dX7_init_73 : decode cX7_init 73 = .ok (.aload_n 0, 1) := by decide +kernel
theorem dX7_init_74 : decode cX7_init 74 = .ok (.bipush 100, 2) := by decide +kernel
theorem dX7_init_76 : decode cX7_init 76 = .ok (.newarray .int, 2) := by decide +kernel
theorem dX7_init_78 : decode cX7_init 78 = .ok (.putfield 47, 3) := by decide +kernel
theorem dX7_init_81 : decode cX7_init 81 = .ok (.aload_n 0, 1) := by decide +kernel
theorem dX7_init_82 : decode cX7_init 82 = .ok (.iconst 5, 1) := by decide +kernel
theorem dX7_init_83 : decode cX7_init 83 = .ok (.newarray .int, 2) := by decide +kernel
theorem dX7_init_85 : decode cX7_init 85 = .ok (.putfield 50, 3) := by decide +kernel
theorem dX7_init_88 : decode cX7_init 88 = .ok (.aload_n 0, 1) := by decide +kernel
theorem dX7_init_89 : decode cX7_init 89 = .ok (.bipush 60, 2) := by decide +kernel
theorem dX7_init_91 : decode cX7_init 91 = .ok (.newarray .int, 2) := by decide +kernel
theorem dX7_init_93 : decode cX7_init 93 = .ok (.putfield 53, 3) := by decide +kernel
theorem dX7_init_96 : decode cX7_init 96 = .ok (.aload_n 0, 1) := by decide +kernel
theorem dX7_init_97 : decode cX7_init 97 = .ok (.bipush 60, 2) := by decide +kernel
theorem dX7_init_99 : decode cX7_init 99 = .ok (.newarray .int, 2) := by decide +kernel
theorem dX7_init_101 : decode cX7_init 101 = .ok (.putfield 56, 3) := by decide +kernel
theorem dX7_init_104 : decode cX7_init 104 = .ok (.aload_n 0, 1) := by decide +kernel
theorem dX7_init_105 : decode cX7_init 105 = .ok (.bipush 60, 2) := by decide +kernel
theorem dX7_init_107 : decode cX7_init 107 = .ok (.newarray .int, 2) := by decide +kernel
theorem dX7_init_109 : decode cX7_init 109 = .ok (.putfield 59, 3) := by decide +kernel
theorem dX7_init_112 : decode cX7_init 112 = .ok (.aload_n 0, 1) := by decide +kernel
theorem dX7_init_113 : decode cX7_init 113 = .ok (.bipush 60, 2) := by decide +kernel
theorem dX7_init_115 : decode cX7_init 115 = .ok (.newarray .int, 2) := by decide +kernel
theorem dX7_init_117 : decode cX7_init 117 = .ok (.putfield 62, 3) := by decide +kernel
theorem dX7_init_120 : decode cX7_init 120 = .ok (.aload_n 0, 1) := by decide +kernel
theorem dX7_init_121 : decode cX7_init 121 = .ok (.bipush 60, 2) := by decide +kernel
theorem dX7_init_123 : decode cX7_init 123 = .ok (.newarray .int, 2) := by decide +kernel
theorem dX7_init_125 : decode cX7_init 125 = .ok (.putfield 65, 3) := by decide +kernel
theorem dX7_init_128 : decode cX7_init 128 = .ok (.aload_n 0, 1) := by decide +kernel
theorem dX7_init_129 : decode cX7_init 129 = .ok (.sipush 500, 3) := by decide +kernel
theorem dX7_init_132 : decode cX7_init 132 = .ok (.newarray .int, 2) := by decide +kernel
theorem dX7_init_134 : decode cX7_init 134 = .ok (.putfield 68, 3) := by decide +kernel
theorem dX7_init_137 : decode cX7_init 137 = .ok (.aload_n 0, 1) := by decide +kernel
theorem dX7_init_138 : decode cX7_init 138 = .ok (.bipush 101, 2) := by decide +kernel
theorem dX7_init_140 : decode cX7_init 140 = .ok (.newarray .int, 2) := by decide +kernel
theorem dX7_init_142 : decode cX7_init 142 = .ok (.putfield 71, 3) := by decide +kernel
theorem dX7_init_145 : decode cX7_init 145 = .ok (.aload_n 0, 1) := by decide +kernel
theorem dX7_init_146 : decode cX7_init 146 = .ok (.iconst 0, 1) := by decide +kernel
theorem dX7_init_147 : decode cX7_init 147 = .ok (.putfield 74, 3) := by decide +kernel
theorem dX7_init_150 : decode cX7_init 150 = .ok (.aload_n 0, 1) := by decide +kernel
theorem dX7_init_151 : decode cX7_init 151 = .ok (.iconst 0, 1) := by decide +kernel
theorem dX7_init_152 : decode cX7_init 152 = .ok (.putfield 77, 3) := by decide +kernel
theorem dX7_init_155 : decode cX7_init 155 = .ok (.aload_n 0, 1) := by decide +kernel
theorem dX7_init_156 : decode cX7_init 156 = .ok (.iconst 0, 1) := by decide +kernel
theorem dX7_init_157 : decode cX7_init 157 = .ok (.putfield 80, 3) := by decide +kernel
theorem dX7_init_160 : decode cX7_init 160 = .ok (.aload_n 0, 1) := by decide +kernel
theorem dX7_init_161 : decode cX7_init 161 = .ok (.bipush 100, 2) := by decide +kernel
theorem dX7_init_163 : decode cX7_init 163 = .ok (.newarray .boolean, 2) := by decide +kernel
theorem dX7_init_165 : decode cX7_init 165 = .ok (.putfield 83, 3) := by decide +kernel
theorem dX7_init_168 : decode cX7_init 168 = .ok (.aload_n 0, 1) := by decide +kernel
theorem dX7_init_169 : decode cX7_init 169 = .ok (.iconst 0, 1) := by decide +kernel
theorem dX7_init_170 : decode cX7_init 170 = .ok (.putfield 87, 3) := by decide +kernel
theorem dX7_init_173 : decode cX7_init 173 = .ok (.aload_n 0, 1) := by decide +kernel
theorem dX7_init_174 : decode cX7_init 174 = .ok (.bipush 24, 2) := by decide +kernel
theorem dX7_init_176 : decode cX7_init 176 = .ok (.newarray .int, 2) := by decide +kernel
theorem dX7_init_178 : decode cX7_init 178 = .ok (.putfield 90, 3) := by decide +kernel
theorem dX7_init_181 : decode cX7_init 181 = .ok (.aload_n 0, 1) := by decide +kernel
theorem dX7_init_182 : decode cX7_init 182 = .ok (.bipush 48, 2) := by decide +kernel
theorem dX7_init_184 : decode cX7_init 184 = .ok (.newarray .int, 2) := by decide +kernel
theorem dX7_init_186 : decode cX7_init 186 = .ok (.putfield 93, 3) := by decide +kernel
theorem dX7_init_189 : decode cX7_init 189 = .ok (.aload_n 0, 1) := by decide +kernel
theorem dX7_init_190 : decode cX7_init 190 = .ok (.iconst 5, 1) := by decide +kernel
theorem dX7_init_191 : decode cX7_init 191 = .ok (.newarray .int, 2) := by decide +kernel
theorem dX7_init_193 : decode cX7_init 193 = .ok (.putfield 96, 3) := by decide +kernel
theorem dX7_init_196 : decode cX7_init 196 = .ok (.aload_n 0, 1) := by decide +kernel
theorem dX7_init_197 : decode cX7_init 197 = .ok (.iconst 5, 1) := by decide +kernel
theorem dX7_init_198 : decode cX7_init 198 = .ok (.newarray .int, 2) := by decide +kernel
theorem dX7_init_200 : decode cX7_init 200 = .ok (.putfield 99, 3) := by decide +kernel
theorem dX7_init_203 : decode cX7_init 203 = .ok (.aload_n 0, 1) := by decide +kernel
theorem dX7_init_204 : decode cX7_init 204 = .ok (.iconst 5, 1) := by decide +kernel
theorem dX7_init_205 : decode cX7_init 205 = .ok (.newarray .int, 2) := by decide +kernel
theorem dX7_init_207 : decode cX7_init 207 = .ok (.putfield 102, 3) := by decide +kernel
theorem dX7_init_210 : decode cX7_init 210 = .ok (.aload_n 0, 1) := by decide +kernel
theorem dX7_init_211 : decode cX7_init 211 = .ok (.iconst 5, 1) := by decide +kernel
theorem dX7_init_212 : decode cX7_init 212 = .ok (.newarray .int, 2) := by decide +kernel
theorem dX7_init_214 : decode cX7_init 214 = .ok (.putfield 105, 3) := by decide +kernel
theorem dX7_init_217 : decode cX7_init 217 = .ok (.aload_n 0, 1) := by decide +kernel
theorem dX7_init_218 : decode cX7_init 218 = .ok (.iconst 5, 1) := by decide +kernel
theorem dX7_init_219 : decode cX7_init 219 = .ok (.newarray .int, 2) := by decide +kernel
theorem dX7_init_221 : decode cX7_init 221 = .ok (.putfield 108, 3) := by decide +kernel
theorem dX7_init_224 : decode cX7_init 224 = .ok (.aload_n 0, 1) := by decide +kernel
theorem dX7_init_225 : decode cX7_init 225 = .ok (.iconst 5, 1) := by decide +kernel
theorem dX7_init_226 : decode cX7_init 226 = .ok (.newarray .int, 2) := by decide +kernel
theorem dX7_init_228 : decode cX7_init 228 = .ok (.putfield 111, 3) := by decide +kernel
theorem dX7_init_231 : decode cX7_init 231 = .ok (.aload_n 0, 1) := by decide +kernel
theorem dX7_init_232 : decode cX7_init 232 = .ok (.sipush 240, 3) := by decide +kernel
theorem dX7_init_235 : decode cX7_init 235 = .ok (.newarray .int, 2) := by decide +kernel
theorem dX7_init_237 : decode cX7_init 237 = .ok (.putfield 114, 3) := by decide +kernel
theorem dX7_init_240 : decode cX7_init 240 = .ok (.aload_n 0, 1) := by decide +kernel
theorem dX7_init_241 : decode cX7_init 241 = .ok (.sipush 240, 3) := by decide +kernel
theorem dX7_init_244 : decode cX7_init 244 = .ok (.newarray .int, 2) := by decide +kernel
theorem dX7_init_246 : decode cX7_init 246 = .ok (.putfield 117, 3) := by decide +kernel
theorem dX7_init_249 : decode cX7_init 249 = .ok (.aload_n 0, 1) := by decide +kernel
theorem dX7_init_250 : decode cX7_init 250 = .ok (.sipush 240, 3) := by decide +kernel
theorem dX7_init_253 : decode cX7_init 253 = .ok (.newarray .int, 2) := by decide +kernel
theorem dX7_init_255 : decode cX7_init 255 = .ok (.putfield 120, 3) := by decide +kernel
theorem dX7_init_258 : decode cX7_init 258 = .ok (.aload_n 0, 1) := by decide +kernel
theorem dX7_init_259 : decode cX7_init 259 = .ok (.sipush 240, 3) := by decide +kernel
theorem dX7_init_262 : decode cX7_init 262 = .ok (.newarray .int, 2) := by decide +kernel
theorem dX7_init_264 : decode cX7_init 264 = .ok (.putfield 123, 3) := by decide +kernel
theorem dX7_init_267 : decode cX7_init 267 = .ok (.aload_n 0, 1) := by decide +kernel
theorem dX7_init_268 : decode cX7_init 268 = .ok (.sipush 240, 3) := by decide +kernel
theorem dX7_init_271 : decode cX7_init 271 = .ok (.newarray .int, 2) := by decide +kernel
theorem dX7_init_273 : decode cX7_init 273 = .ok (.putfield 126, 3) := by decide +kernel
theorem dX7_init_276 : decode cX7_init 276 = .ok (.aload_n 0, 1) := by decide +kernel
theorem dX7_init_277 : decode cX7_init 277 = .ok (.iconst 0, 1) := by decide +kernel
theorem dX7_init_278 : decode cX7_init 278 = .ok (.putfield 129, 3) := by decide +kernel
theorem dX7_init_281 : decode cX7_init 281 = .ok (.aload_n 0, 1) := by decide +kernel
theorem dX7_init_282 : decode cX7_init 282 = .ok (.bipush 10, 2) := by decide +kernel
theorem dX7_init_284 : decode cX7_init 284 = .ok (.newarray .int, 2) := by decide +kernel
theorem dX7_init_286 : decode cX7_init 286 = .ok (.putfield 132, 3) := by decide +kernel
theorem dX7_init_289 : decode cX7_init 289 = .ok (.aload_n 0, 1) := by decide +kernel
theorem dX7_init_290 : decode cX7_init 290 = .ok (.bipush 10, 2) := by decide +kernel
theorem dX7_init_292 : decode cX7_init 292 = .ok (.newarray .int, 2) := by decide +kernel
theorem dX7_init_294 : decode cX7_init 294 = .ok (.putfield 135, 3) := by decide +kernel
theorem dX7_init_297 : decode cX7_init 297 = .ok (.aload_n 0, 1) := by decide +kernel
theorem dX7_init_298 : decode cX7_init 298 = .ok (.bipush 10, 2) := by decide +kernel
theorem dX7_init_300 : decode cX7_init 300 = .ok (.newarray .int, 2) := by decide +kernel
theorem dX7_init_302 : decode cX7_init 302 = .ok (.putfield 138, 3) := by decide +kernel
theorem dX7_init_305 : decode cX7_init 305 = .ok (.aload_n 0, 1) := by decide +kernel
theorem dX7_init_306 : decode cX7_init 306 = .ok (.bipush 10, 2) := by decide +kernel
theorem dX7_init_308 : decode cX7_init 308 = .ok (.newarray .int, 2) := by decide +kernel
theorem dX7_init_310 : decode cX7_init 310 = .ok (.putfield 141, 3) := by decide +kernel
theorem dX7_init_313 : decode cX7_init 313 = .ok (.aload_n 0, 1) := by decide +kernel
theorem dX7_init_314 : decode cX7_init 314 = .ok (.bipush 10, 2) := by decide +kernel
theorem dX7_init_316 : decode cX7_init 316 = .ok (.newarray .int, 2) := by decide +kernel
theorem dX7_init_318 : decode cX7_init 318 = .ok (.putfield 144, 3) := by decide +kernel
theorem dX7_init_321 : decode cX7_init 321 = .ok (.aload_n 0, 1) := by decide +kernel
theorem dX7_init_322 : decode cX7_init 322 = .ok (.iconst 0, 1) := by decide +kernel
theorem dX7_init_323 : decode cX7_init 323 = .ok (.putfield 147, 3) := by decide +kernel
theorem dX7_init_326 : decode cX7_init 326 = .ok (.aload_n 0, 1) := by decide +kernel
theorem dX7_init_327 : decode cX7_init 327 = .ok (.iconst 3, 1) := by decide +kernel
theorem dX7_init_328 : decode cX7_init 328 = .ok (.putfield 151, 3) := by decide +kernel
theorem dX7_init_331 : decode cX7_init 331 = .ok (.aload_n 0, 1) := by decide +kernel
theorem dX7_init_332 : decode cX7_init 332 = .ok (.bipush 10, 2) := by decide +kernel
theorem dX7_init_334 : decode cX7_init 334 = .ok (.putfield 154, 3) := by decide +kernel
theorem dX7_init_337 : decode cX7_init 337 = .ok (.aload_n 0, 1) := by decide +kernel
theorem dX7_init_338 : decode cX7_init 338 = .ok (.iconst 0, 1) := by decide +kernel
theorem dX7_init_339 : decode cX7_init 339 = .ok (.putfield 157, 3) := by decide +kernel
theorem dX7_init_342 : decode cX7_init 342 = .ok (.aload_n 0, 1) := by decide +kernel
theorem dX7_init_343 : decode cX7_init 343 = .ok (.iconst (-1), 1) := by decide +kernel
theorem dX7_init_344 : decode cX7_init 344 = .ok (.putfield 160, 3) := by decide +kernel
theorem dX7_init_347 : decode cX7_init 347 = .ok (.aload_n 0, 1) := by decide +kernel
theorem dX7_init_348 : decode cX7_init 348 = .ok (.iconst 0, 1) := by decide +kernel
theorem dX7_init_349 : decode cX7_init 349 = .ok (.putfield 163, 3) := by decide +kernel
theorem dX7_init_352 : decode cX7_init 352 = .ok (.aload_n 0, 1) := by decide +kernel
theorem dX7_init_353 : decode cX7_init 353 = .ok (.iconst 0, 1) := by decide +kernel
theorem dX7_init_354 : decode cX7_init 354 = .ok (.putfield 166, 3) := by decide +kernel
theorem dX7_init_357 : decode cX7_init 357 = .ok (.aload_n 0, 1) := by decide +kernel
theorem dX7_init_358 : decode cX7_init 358 = .ok (.iconst 2, 1) := by decide +kernel
theorem dX7_init_359 : decode cX7_init 359 = .ok (.newarray .int, 2) := by decide +kernel
theorem dX7_init_361 : decode cX7_init 361 = .ok (.putfield 169, 3) := by decide +kernel
theorem dX7_init_364 : decode cX7_init 364 = .ok (.aload_n 0, 1) := by decide +kernel
theorem dX7_init_365 : decode cX7_init 365 = .ok (.iconst 5, 1) := by decide +kernel
theorem dX7_init_366 : decode cX7_init 366 = .ok (.newarray .int, 2) := by decide +kernel
theorem dX7_init_368 : decode cX7_init 368 = .ok (.putfield 172, 3) := by decide +kernel
theorem dX7_init_371 : decode cX7_init 371 = .ok (.aload_n 0, 1) := by decide +kernel
theorem dX7_init_372 : decode cX7_init 372 = .ok (.iconst 5, 1) := by decide +kernel
theorem dX7_init_373 : decode cX7_init 373 = .ok (.newarray .int, 2) := by decide +kernel
theorem dX7_init_375 : decode cX7_init 375 = .ok (.putfield 175, 3) := by decide +kernel
theorem dX7_init_378 : decode cX7_init 378 = .ok (.aload_n 0, 1) := by decide +kernel
theorem dX7_init_379 : decode cX7_init 379 = .ok (.iconst 5, 1) := by decide +kernel
theorem dX7_init_380 : decode cX7_init 380 = .ok (.newarray .int, 2) := by decide +kernel
theorem dX7_init_382 : decode cX7_init 382 = .ok (.putfield 178, 3) := by decide +kernel
theorem dX7_init_385 : decode cX7_init 385 = .ok (.aload_n 0, 1) := by decide +kernel
theorem dX7_init_386 : decode cX7_init 386 = .ok (.bipush 24, 2) := by decide +kernel
theorem dX7_init_388 : decode cX7_init 388 = .ok (.newarray .int, 2) := by decide +kernel
theorem dX7_init_390 : decode cX7_init 390 = .ok (.putfield 181, 3) := by decide +kernel
theorem dX7_init_393 : decode cX7_init 393 = .ok (.aload_n 0, 1) := by decide +kernel
theorem dX7_init_394 : decode cX7_init 394 = .ok (.bipush 10, 2) := by decide +kernel
theorem dX7_init_396 : decode cX7_init 396 = .ok (.newarray .int, 2) := by decide +kernel
theorem dX7_init_398 : decode cX7_init 398 = .ok (.putfield 184, 3) := by decide +kernel
theorem dX7_init_401 : decode cX7_init 401 = .ok (.aload_n 0, 1) := by decide +kernel
theorem dX7_init_402 : decode cX7_init 402 = .ok (.bipush 10, 2) := by decide +kernel
theorem dX7_init_404 : decode cX7_init 404 = .ok (.newarray .int, 2) := by decide +kernel
theorem dX7_init_406 : decode cX7_init 406 = .ok (.putfield 187, 3) := by decide +kernel
theorem dX7_init_409 : decode cX7_init 409 = .ok (.aload_n 0, 1) := by decide +kernel
theorem dX7_init_410 : decode cX7_init 410 = .ok (.bipush 10, 2) := by decide +kernel
theorem dX7_init_412 : decode cX7_init 412 = .ok (.newarray .int, 2) := by decide +kernel
theorem dX7_init_414 : decode cX7_init 414 = .ok (.putfield 190, 3) := by decide +kernel
theorem dX7_init_417 : decode cX7_init 417 = .ok (.aload_n 0, 1) := by decide +kernel
theorem dX7_init_418 : decode cX7_init 418 = .ok (.bipush 10, 2) := by decide +kernel
theorem dX7_init_420 : decode cX7_init 420 = .ok (.newarray .int, 2) := by decide +kernel
theorem dX7_init_422 : decode cX7_init 422 = .ok (.putfield 193, 3) := by decide +kernel
theorem dX7_init_425 : decode cX7_init 425 = .ok (.aload_n 0, 1) := by decide +kernel
theorem dX7_init_426 : decode cX7_init 426 = .ok (.iconst 0, 1) := by decide +kernel
theorem dX7_init_427 : decode cX7_init 427 = .ok (.putfield 196, 3) := by decide +kernel
theorem dX7_init_430 : decode cX7_init 430 = .ok (.aload_n 0, 1) := by decide +kernel
theorem dX7_init_431 : decode cX7_init 431 = .ok (.bipush 20, 2) := by decide +kernel
theorem dX7_init_433 : decode cX7_init 433 = .ok (.newarray .int, 2) := by decide +kernel
theorem dX7_init_435 : decode cX7_init 435 = .ok (.putfield 199, 3) := by decide +kernel
theorem dX7_init_438 : decode cX7_init 438 = .ok (.aload_n 0, 1) := by decide +kernel
theorem dX7_init_439 : decode cX7_init 439 = .ok (.bipush 6, 2) := by decide +kernel
theorem dX7_init_441 : decode cX7_init 441 = .ok (.newarray .int, 2) := by decide +kernel
theorem dX7_init_443 : decode cX7_init 443 = .ok (.dup, 1) := by decide +kernel
theorem dX7_init_444 : decode cX7_init 444 = .ok (.iconst 0, 1) := by decide +kernel
theorem dX7_init_445 : decode cX7_init 445 = .ok (.iconst (-1), 1) := by decide +kernel
theorem dX7_init_446 : decode cX7_init 446 = .ok (.iastore, 1) := by decide +kernel
theorem dX7_init_447 : decode cX7_init 447 = .ok (.dup, 1) := by decide +kernel
theorem dX7_init_448 : decode cX7_init 448 = .ok (.iconst 1, 1) := by decide +kernel
theorem dX7_init_449 : decode cX7_init 449 = .ok (.iconst (-1), 1) := by decide +kernel
theorem dX7_init_450 : decode cX7_init 450 = .ok (.iastore, 1) := by decide +kernel
theorem dX7_init_451 : decode cX7_init 451 = .ok (.dup, 1) := by decide +kernel
theorem dX7_init_452 : decode cX7_init 452 = .ok (.iconst 2, 1) := by decide +kernel
theorem dX7_init_453 : decode cX7_init 453 = .ok (.iconst (-1), 1) := by decide +kernel
theorem dX7_init_454 : decode cX7_init 454 = .ok (.iastore, 1) := by decide +kernel
theorem dX7_init_455 : decode cX7_init 455 = .ok (.dup, 1) := by decide +kernel
theorem dX7_init_456 : decode cX7_init 456 = .ok (.iconst 3, 1) := by decide +kernel
theorem dX7_init_457 : decode cX7_init 457 = .ok (.iconst (-1), 1) := by decide +kernel
theorem dX7_init_458 : decode cX7_init 458 = .ok (.iastore, 1) := by decide +kernel
theorem dX7_init_459 : decode cX7_init 459 = .ok (.dup, 1) := by decide +kernel
theorem dX7_init_460 : decode cX7_init 460 = .ok (.iconst 4, 1) := by decide +kernel
theorem dX7_init_461 : decode cX7_init 461 = .ok (.iconst (-1), 1) := by decide +kernel
theorem dX7_init_462 : decode cX7_init 462 = .ok (.iastore, 1) := by decide +kernel
theorem dX7_init_463 : decode cX7_init 463 = .ok (.dup, 1) := by decide +kernel
theorem dX7_init_464 : decode cX7_init 464 = .ok (.iconst 5, 1) := by decide +kernel
theorem dX7_init_465 : decode cX7_init 465 = .ok (.iconst (-1), 1) := by decide +kernel
theorem dX7_init_466 : decode cX7_init 466 = .ok (.iastore, 1) := by decide +kernel
theorem dX7_init_467 : decode cX7_init 467 = .ok (.putfield 202, 3) := by decide +kernel
theorem dX7_init_470 : decode cX7_init 470 = .ok (.aload_n 0, 1) := by decide +kernel
theorem dX7_init_471 : decode cX7_init 471 = .ok (.bipush 6, 2) := by decide +kernel
theorem dX7_init_473 : decode cX7_init 473 = .ok (.newarray .int, 2) := by decide +kernel
theorem dX7_init_475 : decode cX7_init 475 = .ok (.putfield 205, 3) := by decide +kernel
theorem dX7_init_478 : decode cX7_init 478 = .ok (.aload_n 0, 1) := by decide +kernel
theorem dX7_init_479 : decode cX7_init 479 = .ok (.sipush 360, 3) := by decide +kernel
theorem dX7_init_482 : decode cX7_init 482 = .ok (.newarray .long, 2) := by decide +kernel
theorem dX7_init_484 : decode cX7_init 484 = .ok (.putfield 208, 3) := by decide +kernel
theorem dX7_init_487 : decode cX7_init 487 = .ok (.aload_n 0, 1) := by decide +kernel
theorem dX7_init_488 : decode cX7_init 488 = .ok (.bipush 60, 2) := by decide +kernel
theorem dX7_init_490 : decode cX7_init 490 = .ok (.newarray .long, 2) := by decide +kernel
theorem dX7_init_492 : decode cX7_init 492 = .ok (.putfield 212, 3) := by decide +kernel
theorem dX7_init_495 : decode cX7_init 495 = .ok (.return_, 1) := by decide +kernel
def fX7_init (this : Nat) (sh : SH) (I : IH) (L : LH) (n : Nat) : Option ((Nat × Nat) × (SH × IH × LH × Nat)) :=
  (pI sh I 7 this 0 3).bind fun i1 =>
  (pI sh i1 7 this 1 10).bind fun i2 =>
  (pI sh i2 7 this 2 0).bind fun i3 =>
  b2 (nAI sh i3 n 0 2) fun h4 i5 =>
  addE 1 (2 : Int32).toNatClampNeg (
  (pR h4 7 this 3 n).bind fun h8 =>
  b2 (nAI h8 i5 (n + 1) 0 5) fun h9 i10 =>
  addE 1 (5 : Int32).toNatClampNeg (
  (pR h9 7 this 4 (n + 1)).bind fun h13 =>
  b2 (nAI h13 i10 ((n + 1) + 1) 0 5) fun h14 i15 =>
  addE 1 (5 : Int32).toNatClampNeg (
  (pR h14 7 this 5 ((n + 1) + 1)).bind fun h18 =>
  b2 (nAI h18 i15 (((n + 1) + 1) + 1) 0 5) fun h19 i20 =>
  addE 1 (5 : Int32).toNatClampNeg (
  (pR h19 7 this 6 (((n + 1) + 1) + 1)).bind fun h23 =>
  (pI h23 i20 7 this 7 0).bind fun i24 =>
  (pI h23 i24 7 this 8 (-1)).bind fun i25 =>
  (pI h23 i25 7 this 9 0).bind fun i26 =>
  (pI h23 i26 7 this 10 0).bind fun i27 =>
  (pI h23 i27 7 this 11 0).bind fun i28 =>
  b2 (nAI h23 i28 ((((n + 1) + 1) + 1) + 1) 0 100) fun h29 i30 =>
  addE 1 (100 : Int32).toNatClampNeg (
  (pR h29 7 this 12 ((((n + 1) + 1) + 1) + 1)).bind fun h33 =>
  b2 (nAI h33 i30 (((((n + 1) + 1) + 1) + 1) + 1) 0 5) fun h34 i35 =>
  addE 1 (5 : Int32).toNatClampNeg (
  (pR h34 7 this 13 (((((n + 1) + 1) + 1) + 1) + 1)).bind fun h38 =>
  b2 (nAI h38 i35 ((((((n + 1) + 1) + 1) + 1) + 1) + 1) 0 60) fun h39 i40 =>
  addE 1 (60 : Int32).toNatClampNeg (
  (pR h39 7 this 14 ((((((n + 1) + 1) + 1) + 1) + 1) + 1)).bind fun h43 =>
  b2 (nAI h43 i40 (((((((n + 1) + 1) + 1) + 1) + 1) + 1) + 1) 0 60) fun h44 i45 =>
  addE 1 (60 : Int32).toNatClampNeg (
  (pR h44 7 this 15 (((((((n + 1) + 1) + 1) + 1) + 1) + 1) + 1)).bind fun h48 =>
  b2 (nAI h48 i45 ((((((((n + 1) + 1) + 1) + 1) + 1) + 1) + 1) + 1) 0 60) fun h49 i50 =>
  addE 1 (60 : Int32).toNatClampNeg (
  (pR h49 7 this 16 ((((((((n + 1) + 1) + 1) + 1) + 1) + 1) + 1) + 1)).bind fun h53 =>
  b2 (nAI h53 i50 (((((((((n + 1) + 1) + 1) + 1) + 1) + 1) + 1) + 1) + 1) 0 60) fun h54 i55 =>
  addE 1 (60 : Int32).toNatClampNeg (
  (pR h54 7 this 17 (((((((((n + 1) + 1) + 1) + 1) + 1) + 1) + 1) + 1) + 1)).bind fun h58 =>
  b2 (nAI h58 i55 ((((((((((n + 1) + 1) + 1) + 1) + 1) + 1) + 1) + 1) + 1) + 1) 0 60) fun h59 i60 =>
  addE 1 (60 : Int32).toNatClampNeg (
  (pR h59 7 this 18 ((((((((((n + 1) + 1) + 1) + 1) + 1) + 1) + 1) + 1) + 1) + 1)).bind fun h63 =>
  b2 (nAI h63 i60 (((((((((((n + 1) + 1) + 1) + 1) + 1) + 1) + 1) + 1) + 1) + 1) + 1) 0 500) fun h64 i65 =>
  addE 1 (500 : Int32).toNatClampNeg (
  (pR h64 7 this 19 (((((((((((n + 1) + 1) + 1) + 1) + 1) + 1) + 1) + 1) + 1) + 1) + 1)).bind fun h68 =>
  b2 (nAI h68 i65 ((((((((((((n + 1) + 1) + 1) + 1) + 1) + 1) + 1) + 1) + 1) + 1) + 1) + 1) 0 101) fun h69 i70 =>
  addE 1 (101 : Int32).toNatClampNeg (
  (pR h69 7 this 20 ((((((((((((n + 1) + 1) + 1) + 1) + 1) + 1) + 1) + 1) + 1) + 1) + 1) + 1)).bind fun h73 =>
  (pI h73 i70 7 this 21 0).bind fun i74 =>
  (pI h73 i74 7 this 22 0).bind fun i75 =>
  (pI h73 i75 7 this 23 0).bind fun i76 =>
  b2 (nAI h73 i76 (((((((((((((n + 1) + 1) + 1) + 1) + 1) + 1) + 1) + 1) + 1) + 1) + 1) + 1) + 1) 1 100) fun h77 i78 =>
  addE 1 (100 : Int32).toNatClampNeg (
  (pR h77 7 this 24 (((((((((((((n + 1) + 1) + 1) + 1) + 1) + 1) + 1) + 1) + 1) + 1) + 1) + 1) + 1)).bind fun h81 =>
  (pI h81 i78 7 this 25 0).bind fun i82 =>
  b2 (nAI h81 i82 ((((((((((((((n + 1) + 1) + 1) + 1) + 1) + 1) + 1) + 1) + 1) + 1) + 1) + 1) + 1) + 1) 0 24) fun h83 i84 =>
  addE 1 (24 : Int32).toNatClampNeg (
  (pR h83 7 this 26 ((((((((((((((n + 1) + 1) + 1) + 1) + 1) + 1) + 1) + 1) + 1) + 1) + 1) + 1) + 1) + 1)).bind fun h87 =>
  b2 (nAI h87 i84 (((((((((((((((n + 1) + 1) + 1) + 1) + 1) + 1) + 1) + 1) + 1) + 1) + 1) + 1) + 1) + 1) + 1) 0 48) fun h88 i89 =>
  addE 1 (48 : Int32).toNatClampNeg (
  (pR h88 7 this 27 (((((((((((((((n + 1) + 1) + 1) + 1) + 1) + 1) + 1) + 1) + 1) + 1) + 1) + 1) + 1) + 1) + 1)).bind fun h92 =>
  b2 (nAI h92 i89 ((((((((((((((((n + 1) + 1) + 1) + 1) + 1) + 1) + 1) + 1) + 1) + 1) + 1) + 1) + 1) + 1) + 1) + 1) 0 5) fun h93 i94 =>
  addE 1 (5 : Int32).toNatClampNeg (
  (pR h93 7 this 28 ((((((((((((((((n + 1) + 1) + 1) + 1) + 1) + 1) + 1) + 1) + 1) + 1) + 1) + 1) + 1) + 1) + 1) + 1)).bind fun h97 =>
  b2 (nAI h97 i94 (((((((((((((((((n + 1) + 1) + 1) + 1) + 1) + 1) + 1) + 1) + 1) + 1) + 1) + 1) + 1) + 1) + 1) + 1) + 1) 0 5) fun h98 i99 =>
  addE 1 (5 : Int32).toNatClampNeg (
  (pR h98 7 this 29 (((((((((((((((((n + 1) + 1) + 1) + 1) + 1) + 1) + 1) + 1) + 1) + 1) + 1) + 1) + 1) + 1) + 1) + 1) + 1)).bind fun h102 =>
  b2 (nAI h102 i99 ((((((((((((((((((n + 1) + 1) + 1) + 1) + 1) + 1) + 1) + 1) + 1) + 1) + 1) + 1) + 1) + 1) + 1) + 1) + 1) + 1) 0 5) fun h103 i104 =>
  addE 1 (5 : Int32).toNatClampNeg (
  (pR h103 7 this 30 ((((((((((((((((((n + 1) + 1) + 1) + 1) + 1) + 1) + 1) + 1) + 1) + 1) + 1) + 1) + 1) + 1) + 1) + 1) + 1) + 1)).bind fun h107 =>
  b2 (nAI h107 i104 (((((((((((((((((((n + 1) + 1) + 1) + 1) + 1) + 1) + 1) + 1) + 1) + 1) + 1) + 1) + 1) + 1) + 1) + 1) + 1) + 1) + 1) 0 5) fun h108 i109 =>
  addE 1 (5 : Int32).toNatClampNeg (
  (pR h108 7 this 31 (((((((((((((((((((n + 1) + 1) + 1) + 1) + 1) + 1) + 1) + 1) + 1) + 1) + 1) + 1) + 1) + 1) + 1) + 1) + 1) + 1) + 1)).bind fun h112 =>
  b2 (nAI h112 i109 ((((((((((((((((((((n + 1) + 1) + 1) + 1) + 1) + 1) + 1) + 1) + 1) + 1) + 1) + 1) + 1) + 1) + 1) + 1) + 1) + 1) + 1) + 1) 0 5) fun h113 i114 =>
  addE 1 (5 : Int32).toNatClampNeg (
  (pR h113 7 this 32 ((((((((((((((((((((n + 1) + 1) + 1) + 1) + 1) + 1) + 1) + 1) + 1) + 1) + 1) + 1) + 1) + 1) + 1) + 1) + 1) + 1) + 1) + 1)).bind fun h117 =>
  b2 (nAI h117 i114 (((((((((((((((((((((n + 1) + 1) + 1) + 1) + 1) + 1) + 1) + 1) + 1) + 1) + 1) + 1) + 1) + 1) + 1) + 1) + 1) + 1) + 1) + 1) + 1) 0 5) fun h118 i119 =>
  addE 1 (5 : Int32).toNatClampNeg (
  (pR h118 7 this 33 (((((((((((((((((((((n + 1) + 1) + 1) + 1) + 1) + 1) + 1) + 1) + 1) + 1) + 1) + 1) + 1) + 1) + 1) + 1) + 1) + 1) + 1) + 1) + 1)).bind fun h122 =>
  b2 (nAI h122 i119 ((((((((((((((((((((((n + 1) + 1) + 1) + 1) + 1) + 1) + 1) + 1) + 1) + 1) + 1) + 1) + 1) + 1) + 1) + 1) + 1) + 1) + 1) + 1) + 1) + 1) 0 240) fun h123 i124 =>
  addE 1 (240 : Int32).toNatClampNeg (
  (pR h123 7 this 34 ((((((((((((((((((((((n + 1) + 1) + 1) + 1) + 1) + 1) + 1) + 1) + 1) + 1) + 1) + 1) + 1) + 1) + 1) + 1) + 1) + 1) + 1) + 1) + 1) + 1)).bind fun h127 =>
  b2 (nAI h127 i124 (((((((((((((((((((((((n + 1) + 1) + 1) + 1) + 1) + 1) + 1) + 1) + 1) + 1) + 1) + 1) + 1) + 1) + 1) + 1) + 1) + 1) + 1) + 1) + 1) + 1) + 1) 0 240) fun h128 i129 =>
  addE 1 (240 : Int32).toNatClampNeg (
  (pR h128 7 this 35 (((((((((((((((((((((((n + 1) + 1) + 1) + 1) + 1) + 1) + 1) + 1) + 1) + 1) + 1) + 1) + 1) + 1) + 1) + 1) + 1) + 1) + 1) + 1) + 1) + 1) + 1)).bind fun h132 =>
  b2 (nAI h132 i129 ((((((((((((((((((((((((n + 1) + 1) + 1) + 1) + 1) + 1) + 1) + 1) + 1) + 1) + 1) + 1) + 1) + 1) + 1) + 1) + 1) + 1) + 1) + 1) + 1) + 1) + 1) + 1) 0 240) fun h133 i134 =>
  addE 1 (240 : Int32).toNatClampNeg (
  (pR h133 7 this 36 ((((((((((((((((((((((((n + 1) + 1) + 1) + 1) + 1) + 1) + 1) + 1) + 1) + 1) + 1) + 1) + 1) + 1) + 1) + 1) + 1) + 1) + 1) + 1) + 1) + 1) + 1) + 1)).bind fun h137 =>
  b2 (nAI h137 i134 (((((((((((((((((((((((((n + 1) + 1) + 1) + 1) + 1) + 1) + 1) + 1) + 1) + 1) + 1) + 1) + 1) + 1) + 1) + 1) + 1) + 1) + 1) + 1) + 1) + 1) + 1) + 1) + 1) 0 240) fun h138 i139 =>
  addE 1 (240 : Int32).toNatClampNeg (
  (pR h138 7 this 37 (((((((((((((((((((((((((n + 1) + 1) + 1) + 1) + 1) + 1) + 1) + 1) + 1) + 1) + 1) + 1) + 1) + 1) + 1) + 1) + 1) + 1) + 1) + 1) + 1) + 1) + 1) + 1) + 1)).bind fun h142 =>
  b2 (nAI h142 i139 ((((((((((((((((((((((((((n + 1) + 1) + 1) + 1) + 1) + 1) + 1) + 1) + 1) + 1) + 1) + 1) + 1) + 1) + 1) + 1) + 1) + 1) + 1) + 1) + 1) + 1) + 1) + 1) + 1) + 1) 0 240) fun h143 i144 =>
  addE 1 (240 : Int32).toNatClampNeg (
  (pR h143 7 this 38 ((((((((((((((((((((((((((n + 1) + 1) + 1) + 1) + 1) + 1) + 1) + 1) + 1) + 1) + 1) + 1) + 1) + 1) + 1) + 1) + 1) + 1) + 1) + 1) + 1) + 1) + 1) + 1) + 1) + 1)).bind fun h147 =>
  (pI h147 i144 7 this 39 0).bind fun i148 =>
  b2 (nAI h147 i148 (((((((((((((((((((((((((((n + 1) + 1) + 1) + 1) + 1) + 1) + 1) + 1) + 1) + 1) + 1) + 1) + 1) + 1) + 1) + 1) + 1) + 1) + 1) + 1) + 1) + 1) + 1) + 1) + 1) + 1) + 1) 0 10) fun h149 i150 =>
  addE 1 (10 : Int32).toNatClampNeg (
  (pR h149 7 this 40 (((((((((((((((((((((((((((n + 1) + 1) + 1) + 1) + 1) + 1) + 1) + 1) + 1) + 1) + 1) + 1) + 1) + 1) + 1) + 1) + 1) + 1) + 1) + 1) + 1) + 1) + 1) + 1) + 1) + 1) + 1)).bind fun h153 =>
  b2 (nAI h153 i150 ((((((((((((((((((((((((((((n + 1) + 1) + 1) + 1) + 1) + 1) + 1) + 1) + 1) + 1) + 1) + 1) + 1) + 1) + 1) + 1) + 1) + 1) + 1) + 1) + 1) + 1) + 1) + 1) + 1) + 1) + 1) + 1) 0 10) fun h154 i155 =>
  addE 1 (10 : Int32).toNatClampNeg (
  (pR h154 7 this 41 ((((((((((((((((((((((((((((n + 1) + 1) + 1) + 1) + 1) + 1) + 1) + 1) + 1) + 1) + 1) + 1) + 1) + 1) + 1) + 1) + 1) + 1) + 1) + 1) + 1) + 1) + 1) + 1) + 1) + 1) + 1) + 1)).bind fun h158 =>
  b2 (nAI h158 i155 (((((((((((((((((((((((((((((n + 1) + 1) + 1) + 1) + 1) + 1) + 1) + 1) + 1) + 1) + 1) + 1) + 1) + 1) + 1) + 1) + 1) + 1) + 1) + 1) + 1) + 1) + 1) + 1) + 1) + 1) + 1) + 1) + 1) 0 10) fun h159 i160 =>
  addE 1 (10 : Int32).toNatClampNeg (
  (pR h159 7 this 42 (((((((((((((((((((((((((((((n + 1) + 1) + 1) + 1) + 1) + 1) + 1) + 1) + 1) + 1) + 1) + 1) + 1) + 1) + 1) + 1) + 1) + 1) + 1) + 1) + 1) + 1) + 1) + 1) + 1) + 1) + 1) + 1) + 1)).bind fun h163 =>
  b2 (nAI h163 i160 ((((((((((((((((((((((((((((((n + 1) + 1) + 1) + 1) + 1) + 1) + 1) + 1) + 1) + 1) + 1) + 1) + 1) + 1) + 1) + 1) + 1) + 1) + 1) + 1) + 1) + 1) + 1) + 1) + 1) + 1) + 1) + 1) + 1) + 1) 0 10) fun h164 i165 =>
  addE 1 (10 : Int32).toNatClampNeg (
  (pR h164 7 this 43 ((((((((((((((((((((((((((((((n + 1) + 1) + 1) + 1) + 1) + 1) + 1) + 1) + 1) + 1) + 1) + 1) + 1) + 1) + 1) + 1) + 1) + 1) + 1) + 1) + 1) + 1) + 1) + 1) + 1) + 1) + 1) + 1) + 1) + 1)).bind fun h168 =>
  b2 (nAI h168 i165 (((((((((((((((((((((((((((((((n + 1) + 1) + 1) + 1) + 1) + 1) + 1) + 1) + 1) + 1) + 1) + 1) + 1) + 1) + 1) + 1) + 1) + 1) + 1) + 1) + 1) + 1) + 1) + 1) + 1) + 1) + 1) + 1) + 1) + 1) + 1) 0 10) fun h169 i170 =>
  addE 1 (10 : Int32).toNatClampNeg (
  (pR h169 7 this 44 (((((((((((((((((((((((((((((((n + 1) + 1) + 1) + 1) + 1) + 1) + 1) + 1) + 1) + 1) + 1) + 1) + 1) + 1) + 1) + 1) + 1) + 1) + 1) + 1) + 1) + 1) + 1) + 1) + 1) + 1) + 1) + 1) + 1) + 1) + 1)).bind fun h173 =>
  (pI h173 i170 7 this 45 0).bind fun i174 =>
  (pI h173 i174 7 this 46 3).bind fun i175 =>
  (pI h173 i175 7 this 47 10).bind fun i176 =>
  (pI h173 i176 7 this 48 0).bind fun i177 =>
  (pI h173 i177 7 this 49 (-1)).bind fun i178 =>
  (pI h173 i178 7 this 50 0).bind fun i179 =>
  (pI h173 i179 7 this 51 0).bind fun i180 =>
  b2 (nAI h173 i180 ((((((((((((((((((((((((((((((((n + 1) + 1) + 1) + 1) + 1) + 1) + 1) + 1) + 1) + 1) + 1) + 1) + 1) + 1) + 1) + 1) + 1) + 1) + 1) + 1) + 1) + 1) + 1) + 1) + 1) + 1) + 1) + 1) + 1) + 1) + 1) + 1) 0 2) fun h181 i182 =>
  addE 1 (2 : Int32).toNatClampNeg (
  (pR h181 7 this 52 ((((((((((((((((((((((((((((((((n + 1) + 1) + 1) + 1) + 1) + 1) + 1) + 1) + 1) + 1) + 1) + 1) + 1) + 1) + 1) + 1) + 1) + 1) + 1) + 1) + 1) + 1) + 1) + 1) + 1) + 1) + 1) + 1) + 1) + 1) + 1) + 1)).bind fun h185 =>
  b2 (nAI h185 i182 (((((((((((((((((((((((((((((((((n + 1) + 1) + 1) + 1) + 1) + 1) + 1) + 1) + 1) + 1) + 1) + 1) + 1) + 1) + 1) + 1) + 1) + 1) + 1) + 1) + 1) + 1) + 1) + 1) + 1) + 1) + 1) + 1) + 1) + 1) + 1) + 1) + 1) 0 5) fun h186 i187 =>
  addE 1 (5 : Int32).toNatClampNeg (
  (pR h186 7 this 53 (((((((((((((((((((((((((((((((((n + 1) + 1) + 1) + 1) + 1) + 1) + 1) + 1) + 1) + 1) + 1) + 1) + 1) + 1) + 1) + 1) + 1) + 1) + 1) + 1) + 1) + 1) + 1) + 1) + 1) + 1) + 1) + 1) + 1) + 1) + 1) + 1) + 1)).bind fun h190 =>
  b2 (nAI h190 i187 ((((((((((((((((((((((((((((((((((n + 1) + 1) + 1) + 1) + 1) + 1) + 1) + 1) + 1) + 1) + 1) + 1) + 1) + 1) + 1) + 1) + 1) + 1) + 1) + 1) + 1) + 1) + 1) + 1) + 1) + 1) + 1) + 1) + 1) + 1) + 1) + 1) + 1) + 1) 0 5) fun h191 i192 =>
  addE 1 (5 : Int32).toNatClampNeg (
  (pR h191 7 this 54 ((((((((((((((((((((((((((((((((((n + 1) + 1) + 1) + 1) + 1) + 1) + 1) + 1) + 1) + 1) + 1) + 1) + 1) + 1) + 1) + 1) + 1) + 1) + 1) + 1) + 1) + 1) + 1) + 1) + 1) + 1) + 1) + 1) + 1) + 1) + 1) + 1) + 1) + 1)).bind fun h195 =>
  b2 (nAI h195 i192 (((((((((((((((((((((((((((((((((((n + 1) + 1) + 1) + 1) + 1) + 1) + 1) + 1) + 1) + 1) + 1) + 1) + 1) + 1) + 1) + 1) + 1) + 1) + 1) + 1) + 1) + 1) + 1) + 1) + 1) + 1) + 1) + 1) + 1) + 1) + 1) + 1) + 1) + 1) + 1) 0 5) fun h196 i197 =>
  addE 1 (5 : Int32).toNatClampNeg (
  (pR h196 7 this 55 (((((((((((((((((((((((((((((((((((n + 1) + 1) + 1) + 1) + 1) + 1) + 1) + 1) + 1) + 1) + 1) + 1) + 1) + 1) + 1) + 1) + 1) + 1) + 1) + 1) + 1) + 1) + 1) + 1) + 1) + 1) + 1) + 1) + 1) + 1) + 1) + 1) + 1) + 1) + 1)).bind fun h200 =>
  b2 (nAI h200 i197 ((((((((((((((((((((((((((((((((((((n + 1) + 1) + 1) + 1) + 1) + 1) + 1) + 1) + 1) + 1) + 1) + 1) + 1) + 1) + 1) + 1) + 1) + 1) + 1) + 1) + 1) + 1) + 1) + 1) + 1) + 1) + 1) + 1) + 1) + 1) + 1) + 1) + 1) + 1) + 1) + 1) 0 24) fun h201 i202 =>
  addE 1 (24 : Int32).toNatClampNeg (
  (pR h201 7 this 56 ((((((((((((((((((((((((((((((((((((n + 1) + 1) + 1) + 1) + 1) + 1) + 1) + 1) + 1) + 1) + 1) + 1) + 1) + 1) + 1) + 1) + 1) + 1) + 1) + 1) + 1) + 1) + 1) + 1) + 1) + 1) + 1) + 1) + 1) + 1) + 1) + 1) + 1) + 1) + 1) + 1)).bind fun h205 =>
  b2 (nAI h205 i202 (((((((((((((((((((((((((((((((((((((n + 1) + 1) + 1) + 1) + 1) + 1) + 1) + 1) + 1) + 1) + 1) + 1) + 1) + 1) + 1) + 1) + 1) + 1) + 1) + 1) + 1) + 1) + 1) + 1) + 1) + 1) + 1) + 1) + 1) + 1) + 1) + 1) + 1) + 1) + 1) + 1) + 1) 0 10) fun h206 i207 =>
  addE 1 (10 : Int32).toNatClampNeg (
  (pR h206 7 this 57 (((((((((((((((((((((((((((((((((((((n + 1) + 1) + 1) + 1) + 1) + 1) + 1) + 1) + 1) + 1) + 1) + 1) + 1) + 1) + 1) + 1) + 1) + 1) + 1) + 1) + 1) + 1) + 1) + 1) + 1) + 1) + 1) + 1) + 1) + 1) + 1) + 1) + 1) + 1) + 1) + 1) + 1)).bind fun h210 =>
  b2 (nAI h210 i207 ((((((((((((((((((((((((((((((((((((((n + 1) + 1) + 1) + 1) + 1) + 1) + 1) + 1) + 1) + 1) + 1) + 1) + 1) + 1) + 1) + 1) + 1) + 1) + 1) + 1) + 1) + 1) + 1) + 1) + 1) + 1) + 1) + 1) + 1) + 1) + 1) + 1) + 1) + 1) + 1) + 1) + 1) + 1) 0 10) fun h211 i212 =>
  addE 1 (10 : Int32).toNatClampNeg (
  (pR h211 7 this 58 ((((((((((((((((((((((((((((((((((((((n + 1) + 1) + 1) + 1) + 1) + 1) + 1) + 1) + 1) + 1) + 1) + 1) + 1) + 1) + 1) + 1) + 1) + 1) + 1) + 1) + 1) + 1) + 1) + 1) + 1) + 1) + 1) + 1) + 1) + 1) + 1) + 1) + 1) + 1) + 1) + 1) + 1) + 1)).bind fun h215 =>
  b2 (nAI h215 i212 (((((((((((((((((((((((((((((((((((((((n + 1) + 1) + 1) + 1) + 1) + 1) + 1) + 1) + 1) + 1) + 1) + 1) + 1) + 1) + 1) + 1) + 1) + 1) + 1) + 1) + 1) + 1) + 1) + 1) + 1) + 1) + 1) + 1) + 1) + 1) + 1) + 1) + 1) + 1) + 1) + 1) + 1) + 1) + 1) 0 10) fun h216 i217 =>
  addE 1 (10 : Int32).toNatClampNeg (
  (pR h216 7 this 59 (((((((((((((((((((((((((((((((((((((((n + 1) + 1) + 1) + 1) + 1) + 1) + 1) + 1) + 1) + 1) + 1) + 1) + 1) + 1) + 1) + 1) + 1) + 1) + 1) + 1) + 1) + 1) + 1) + 1) + 1) + 1) + 1) + 1) + 1) + 1) + 1) + 1) + 1) + 1) + 1) + 1) + 1) + 1) + 1)).bind fun h220 =>
  b2 (nAI h220 i217 ((((((((((((((((((((((((((((((((((((((((n + 1) + 1) + 1) + 1) + 1) + 1) + 1) + 1) + 1) + 1) + 1) + 1) + 1) + 1) + 1) + 1) + 1) + 1) + 1) + 1) + 1) + 1) + 1) + 1) + 1) + 1) + 1) + 1) + 1) + 1) + 1) + 1) + 1) + 1) + 1) + 1) + 1) + 1) + 1) + 1) 0 10) fun h221 i222 =>
  addE 1 (10 : Int32).toNatClampNeg (
  (pR h221 7 this 60 ((((((((((((((((((((((((((((((((((((((((n + 1) + 1) + 1) + 1) + 1) + 1) + 1) + 1) + 1) + 1) + 1) + 1) + 1) + 1) + 1) + 1) + 1) + 1) + 1) + 1) + 1) + 1) + 1) + 1) + 1) + 1) + 1) + 1) + 1) + 1) + 1) + 1) + 1) + 1) + 1) + 1) + 1) + 1) + 1) + 1)).bind fun h225 =>
  (pI h225 i222 7 this 61 0).bind fun i226 =>
  b2 (nAI h225 i226 (((((((((((((((((((((((((((((((((((((((((n + 1) + 1) + 1) + 1) + 1) + 1) + 1) + 1) + 1) + 1) + 1) + 1) + 1) + 1) + 1) + 1) + 1) + 1) + 1) + 1) + 1) + 1) + 1) + 1) + 1) + 1) + 1) + 1) + 1) + 1) + 1) + 1) + 1) + 1) + 1) + 1) + 1) + 1) + 1) + 1) + 1) 0 20) fun h227 i228 =>
  addE 1 (20 : Int32).toNatClampNeg (
  (pR h227 7 this 62 (((((((((((((((((((((((((((((((((((((((((n + 1) + 1) + 1) + 1) + 1) + 1) + 1) + 1) + 1) + 1) + 1) + 1) + 1) + 1) + 1) + 1) + 1) + 1) + 1) + 1) + 1) + 1) + 1) + 1) + 1) + 1) + 1) + 1) + 1) + 1) + 1) + 1) + 1) + 1) + 1) + 1) + 1) + 1) + 1) + 1) + 1)).bind fun h231 =>
  b2 (nAI h231 i228 ((((((((((((((((((((((((((((((((((((((((((n + 1) + 1) + 1) + 1) + 1) + 1) + 1) + 1) + 1) + 1) + 1) + 1) + 1) + 1) + 1) + 1) + 1) + 1) + 1) + 1) + 1) + 1) + 1) + 1) + 1) + 1) + 1) + 1) + 1) + 1) + 1) + 1) + 1) + 1) + 1) + 1) + 1) + 1) + 1) + 1) + 1) + 1) 0 6) fun h232 i233 =>
  addE 1 (6 : Int32).toNatClampNeg (
  (sI h232 i233 ((((((((((((((((((((((((((((((((((((((((((n + 1) + 1) + 1) + 1) + 1) + 1) + 1) + 1) + 1) + 1) + 1) + 1) + 1) + 1) + 1) + 1) + 1) + 1) + 1) + 1) + 1) + 1) + 1) + 1) + 1) + 1) + 1) + 1) + 1) + 1) + 1) + 1) + 1) + 1) + 1) + 1) + 1) + 1) + 1) + 1) + 1) + 1) 0 (-1)).bind fun i236 =>
  (sI h232 i236 ((((((((((((((((((((((((((((((((((((((((((n + 1) + 1) + 1) + 1) + 1) + 1) + 1) + 1) + 1) + 1) + 1) + 1) + 1) + 1) + 1) + 1) + 1) + 1) + 1) + 1) + 1) + 1) + 1) + 1) + 1) + 1) + 1) + 1) + 1) + 1) + 1) + 1) + 1) + 1) + 1) + 1) + 1) + 1) + 1) + 1) + 1) + 1) 1 (-1)).bind fun i237 =>
  (sI h232 i237 ((((((((((((((((((((((((((((((((((((((((((n + 1) + 1) + 1) + 1) + 1) + 1) + 1) + 1) + 1) + 1) + 1) + 1) + 1) + 1) + 1) + 1) + 1) + 1) + 1) + 1) + 1) + 1) + 1) + 1) + 1) + 1) + 1) + 1) + 1) + 1) + 1) + 1) + 1) + 1) + 1) + 1) + 1) + 1) + 1) + 1) + 1) + 1) 2 (-1)).bind fun i238 =>
  (sI h232 i238 ((((((((((((((((((((((((((((((((((((((((((n + 1) + 1) + 1) + 1) + 1) + 1) + 1) + 1) + 1) + 1) + 1) + 1) + 1) + 1) + 1) + 1) + 1) + 1) + 1) + 1) + 1) + 1) + 1) + 1) + 1) + 1) + 1) + 1) + 1) + 1) + 1) + 1) + 1) + 1) + 1) + 1) + 1) + 1) + 1) + 1) + 1) + 1) 3 (-1)).bind fun i239 =>
  (sI h232 i239 ((((((((((((((((((((((((((((((((((((((((((n + 1) + 1) + 1) + 1) + 1) + 1) + 1) + 1) + 1) + 1) + 1) + 1) + 1) + 1) + 1) + 1) + 1) + 1) + 1) + 1) + 1) + 1) + 1) + 1) + 1) + 1) + 1) + 1) + 1) + 1) + 1) + 1) + 1) + 1) + 1) + 1) + 1) + 1) + 1) + 1) + 1) + 1) 4 (-1)).bind fun i240 =>
  (sI h232 i240 ((((((((((((((((((((((((((((((((((((((((((n + 1) + 1) + 1) + 1) + 1) + 1) + 1) + 1) + 1) + 1) + 1) + 1) + 1) + 1) + 1) + 1) + 1) + 1) + 1) + 1) + 1) + 1) + 1) + 1) + 1) + 1) + 1) + 1) + 1) + 1) + 1) + 1) + 1) + 1) + 1) + 1) + 1) + 1) + 1) + 1) + 1) + 1) 5 (-1)).bind fun i241 =>
  (pR h232 7 this 63 ((((((((((((((((((((((((((((((((((((((((((n + 1) + 1) + 1) + 1) + 1) + 1) + 1) + 1) + 1) + 1) + 1) + 1) + 1) + 1) + 1) + 1) + 1) + 1) + 1) + 1) + 1) + 1) + 1) + 1) + 1) + 1) + 1) + 1) + 1) + 1) + 1) + 1) + 1) + 1) + 1) + 1) + 1) + 1) + 1) + 1) + 1) + 1)).bind fun h242 =>
  b2 (nAI h242 i241 (((((((((((((((((((((((((((((((((((((((((((n + 1) + 1) + 1) + 1) + 1) + 1) + 1) + 1) + 1) + 1) + 1) + 1) + 1) + 1) + 1) + 1) + 1) + 1) + 1) + 1) + 1) + 1) + 1) + 1) + 1) + 1) + 1) + 1) + 1) + 1) + 1) + 1) + 1) + 1) + 1) + 1) + 1) + 1) + 1) + 1) + 1) + 1) + 1) 0 6) fun h243 i244 =>
  addE 1 (6 : Int32).toNatClampNeg (
  (pR h243 7 this 64 (((((((((((((((((((((((((((((((((((((((((((n + 1) + 1) + 1) + 1) + 1) + 1) + 1) + 1) + 1) + 1) + 1) + 1) + 1) + 1) + 1) + 1) + 1) + 1) + 1) + 1) + 1) + 1) + 1) + 1) + 1) + 1) + 1) + 1) + 1) + 1) + 1) + 1) + 1) + 1) + 1) + 1) + 1) + 1) + 1) + 1) + 1) + 1) + 1)).bind fun h247 =>
  b2 (nAL h247 L ((((((((((((((((((((((((((((((((((((((((((((n + 1) + 1) + 1) + 1) + 1) + 1) + 1) + 1) + 1) + 1) + 1) + 1) + 1) + 1) + 1) + 1) + 1) + 1) + 1) + 1) + 1) + 1) + 1) + 1) + 1) + 1) + 1) + 1) + 1) + 1) + 1) + 1) + 1) + 1) + 1) + 1) + 1) + 1) + 1) + 1) + 1) + 1) + 1) + 1) 360) fun h248 l249 =>
  addE 1 (360 : Int32).toNatClampNeg (
  (pR h248 7 this 65 ((((((((((((((((((((((((((((((((((((((((((((n + 1) + 1) + 1) + 1) + 1) + 1) + 1) + 1) + 1) + 1) + 1) + 1) + 1) + 1) + 1) + 1) + 1) + 1) + 1) + 1) + 1) + 1) + 1) + 1) + 1) + 1) + 1) + 1) + 1) + 1) + 1) + 1) + 1) + 1) + 1) + 1) + 1) + 1) + 1) + 1) + 1) + 1) + 1) + 1)).bind fun h252 =>
  b2 (nAL h252 l249 (((((((((((((((((((((((((((((((((((((((((((((n + 1) + 1) + 1) + 1) + 1) + 1) + 1) + 1) + 1) + 1) + 1) + 1) + 1) + 1) + 1) + 1) + 1) + 1) + 1) + 1) + 1) + 1) + 1) + 1) + 1) + 1) + 1) + 1) + 1) + 1) + 1) + 1) + 1) + 1) + 1) + 1) + 1) + 1) + 1) + 1) + 1) + 1) + 1) + 1) + 1) 60) fun h253 l254 =>
  addE 1 (60 : Int32).toNatClampNeg (
  (pR h253 7 this 66 (((((((((((((((((((((((((((((((((((((((((((((n + 1) + 1) + 1) + 1) + 1) + 1) + 1) + 1) + 1) + 1) + 1) + 1) + 1) + 1) + 1) + 1) + 1) + 1) + 1) + 1) + 1) + 1) + 1) + 1) + 1) + 1) + 1) + 1) + 1) + 1) + 1) + 1) + 1) + 1) + 1) + 1) + 1) + 1) + 1) + 1) + 1) + 1) + 1) + 1) + 1)).bind fun h257 =>
  some ((0, 0), (h257, i244, l254, ((((((((((((((((((((((((((((((((((((((((((((((n + 1) + 1) + 1) + 1) + 1) + 1) + 1) + 1) + 1) + 1) + 1) + 1) + 1) + 1) + 1) + 1) + 1) + 1) + 1) + 1) + 1) + 1) + 1) + 1) + 1) + 1) + 1) + 1) + 1) + 1) + 1) + 1) + 1) + 1) + 1) + 1) + 1) + 1) + 1) + 1) + 1) + 1) + 1) + 1) + 1) + 1)))))))))))))))))))))))))))))))))))))))))))))))))
set_option maxHeartbeats 4000000 in
set_option maxRecDepth 20000 in
theorem jbX7_init_0 (G : GT) {X : XT}  {sh' : SH} {I' : IH} {L' : LH} {n' : Nat}  {this : Nat}  {sh : SH} {I : IH} {L : LH} {n : Nat} {e es : Nat} (F : MF G X RX7 cX7_init 1 1 none "<init>") (h : fX7_init this sh I L n = some ((e, es), (sh', I', L', n'))) : J G X (QE G X (none) sh' I' L' n') 1 sh I L n e es 0 [(0, .ref this)] [] := by
  unfold fX7_init at h
  refine j_aload_n (pc := 0) (k0 := 0) F 0 rfl dX7_init_0 ?_
  refine j_objInit (pc := 1) F (good_of 752 (by decide +kernel) (by decide +kernel)) rfl rfl dX7_init_1 ?_
  refine j_aload_n (pc := 4) (k0 := 0) F 0 rfl dX7_init_4 ?_
  refine j_iconst (pc := 5) F 3 dX7_init_5 (by decide) ?_
  obtain ⟨i1, hi1, h⟩ := ob h
  refine j_putI (pc := 6) F flX7_7 fp7_0 (fun z => by cases z) hi1 dX7_init_6 ?_
  refine j_aload_n (pc := 9) (k0 := 0) F 0 rfl dX7_init_9 ?_
  refine j_bipush (pc := 10) F 10 dX7_init_10 (by decide) ?_
  obtain ⟨i2, hi2, h⟩ := ob h
  refine j_putI (pc := 12) F flX7_13 fp7_1 (fun z => by cases z) hi2 dX7_init_12 ?_
  refine j_aload_n (pc := 15) (k0 := 0) F 0 rfl dX7_init_15 ?_
  refine j_iconst (pc := 16) F 0 dX7_init_16 (by decide) ?_
  obtain ⟨i3, hi3, h⟩ := ob h
  refine j_putI (pc := 17) F flX7_16 fp7_2 (fun z => by cases z) hi3 dX7_init_17 ?_
  refine j_aload_n (pc := 20) (k0 := 0) F 0 rfl dX7_init_20 ?_
  refine j_iconst (pc := 21) F 2 dX7_init_21 (by decide) ?_
  obtain ⟨h4, i5, hh4, h⟩ := b2_obt h
  obtain ⟨e6, es7, h, he, hes⟩ := addE_obt h
  refine j_newI (pc := 22) F (Or.inl ⟨rfl, rfl⟩) aw_int hh4 he hes dX7_init_22 ?_
  obtain ⟨h8, hh8, h⟩ := ob h
  refine j_putR (pc := 24) (ty := (.array .int)) F ⟨rfl, rfl⟩ flX7_19 fp7_3 (fun _ => ⟨rfl, rfl⟩) hh8 dX7_init_24 ?_
  refine j_aload_n (pc := 27) (k0 := 0) F 0 rfl dX7_init_27 ?_
  refine j_iconst (pc := 28) F 5 dX7_init_28 (by decide) ?_
  obtain ⟨h9, i10, hh9, h⟩ := b2_obt h
  obtain ⟨e11, es12, h, he, hes⟩ := addE_obt h
  refine j_newI (pc := 29) F (Or.inl ⟨rfl, rfl⟩) aw_int hh9 he hes dX7_init_29 ?_
  obtain ⟨h13, hh13, h⟩ := ob h
  refine j_putR (pc := 31) (ty := (.array .int)) F ⟨rfl, rfl⟩ flX7_23 fp7_4 (fun _ => ⟨rfl, rfl⟩) hh13 dX7_init_31 ?_
  refine j_aload_n (pc := 34) (k0 := 0) F 0 rfl dX7_init_34 ?_
  refine j_iconst (pc := 35) F 5 dX7_init_35 (by decide) ?_
  obtain ⟨h14, i15, hh14, h⟩ := b2_obt h
  obtain ⟨e16, es17, h, he, hes⟩ := addE_obt h
  refine j_newI (pc := 36) F (Or.inl ⟨rfl, rfl⟩) aw_int hh14 he hes dX7_init_36 ?_
  obtain ⟨h18, hh18, h⟩ := ob h
  refine j_putR (pc := 38) (ty := (.array .int)) F ⟨rfl, rfl⟩ flX7_26 fp7_5 (fun _ => ⟨rfl, rfl⟩) hh18 dX7_init_38 ?_
  refine j_aload_n (pc := 41) (k0 := 0) F 0 rfl dX7_init_41 ?_
  refine j_iconst (pc := 42) F 5 dX7_init_42 (by decide) ?_
  obtain ⟨h19, i20, hh19, h⟩ := b2_obt h
  obtain ⟨e21, es22, h, he, hes⟩ := addE_obt h
  refine j_newI (pc := 43) F (Or.inl ⟨rfl, rfl⟩) aw_int hh19 he hes dX7_init_43 ?_
  obtain ⟨h23, hh23, h⟩ := ob h
  refine j_putR (pc := 45) (ty := (.array .int)) F ⟨rfl, rfl⟩ flX7_29 fp7_6 (fun _ => ⟨rfl, rfl⟩) hh23 dX7_init_45 ?_
  refine j_aload_n (pc := 48) (k0 := 0) F 0 rfl dX7_init_48 ?_
  refine j_iconst (pc := 49) F 0 dX7_init_49 (by decide) ?_
  obtain ⟨i24, hi24, h⟩ := ob h
  refine j_putI (pc := 50) F flX7_32 fp7_7 (fun z => by cases z) hi24 dX7_init_50 ?_
  refine j_aload_n (pc := 53) (k0 := 0) F 0 rfl dX7_init_53 ?_
  refine j_iconst (pc := 54) F (-1) dX7_init_54 (by decide) ?_
  obtain ⟨i25, hi25, h⟩ := ob h
  refine j_putI (pc := 55) F flX7_35 fp7_8 (fun z => by cases z) hi25 dX7_init_55 ?_
  refine j_aload_n (pc := 58) (k0 := 0) F 0 rfl dX7_init_58 ?_
  refine j_iconst (pc := 59) F 0 dX7_init_59 (by decide) ?_
  obtain ⟨i26, hi26, h⟩ := ob h
  refine j_putI (pc := 60) F flX7_38 fp7_9 (fun z => by cases z) hi26 dX7_init_60 ?_
  refine j_aload_n (pc := 63) (k0 := 0) F 0 rfl dX7_init_63 ?_
  refine j_iconst (pc := 64) F 0 dX7_init_64 (by decide) ?_
  obtain ⟨i27, hi27, h⟩ := ob h
  refine j_putI (pc := 65) F flX7_41 fp7_10 (fun z => by cases z) hi27 dX7_init_65 ?_
  refine j_aload_n (pc := 68) (k0 := 0) F 0 rfl dX7_init_68 ?_
  refine j_iconst (pc := 69) F 0 dX7_init_69 (by decide) ?_
  obtain ⟨i28, hi28, h⟩ := ob h
  refine j_putI (pc := 70) F flX7_44 fp7_11 (fun z => by cases z) hi28 dX7_init_70 ?_
  refine j_aload_n (pc := 73) (k0 := 0) F 0 rfl dX7_init_73 ?_
  refine j_bipush (pc := 74) F 100 dX7_init_74 (by decide) ?_
  obtain ⟨h29, i30, hh29, h⟩ := b2_obt h
  obtain ⟨e31, es32, h, he, hes⟩ := addE_obt h
  refine j_newI (pc := 76) F (Or.inl ⟨rfl, rfl⟩) aw_int hh29 he hes dX7_init_76 ?_
  obtain ⟨h33, hh33, h⟩ := ob h
  refine j_putR (pc := 78) (ty := (.array .int)) F ⟨rfl, rfl⟩ flX7_47 fp7_12 (fun _ => ⟨rfl, rfl⟩) hh33 dX7_init_78 ?_
  refine j_aload_n (pc := 81) (k0 := 0) F 0 rfl dX7_init_81 ?_
  refine j_iconst (pc := 82) F 5 dX7_init_82 (by decide) ?_
  obtain ⟨h34, i35, hh34, h⟩ := b2_obt h
  obtain ⟨e36, es37, h, he, hes⟩ := addE_obt h
  refine j_newI (pc := 83) F (Or.inl ⟨rfl, rfl⟩) aw_int hh34 he hes dX7_init_83 ?_
  obtain ⟨h38, hh38, h⟩ := ob h
  refine j_putR (pc := 85) (ty := (.array .int)) F ⟨rfl, rfl⟩ flX7_50 fp7_13 (fun _ => ⟨rfl, rfl⟩) hh38 dX7_init_85 ?_
  refine j_aload_n (pc := 88) (k0 := 0) F 0 rfl dX7_init_88 ?_
  refine j_bipush (pc := 89) F 60 dX7_init_89 (by decide) ?_
  obtain ⟨h39, i40, hh39, h⟩ := b2_obt h
  obtain ⟨e41, es42, h, he, hes⟩ := addE_obt h
  refine j_newI (pc := 91) F (Or.inl ⟨rfl, rfl⟩) aw_int hh39 he hes dX7_init_91 ?_
  obtain ⟨h43, hh43, h⟩ := ob h
  refine j_putR (pc := 93) (ty := (.array .int)) F ⟨rfl, rfl⟩ flX7_53 fp7_14 (fun _ => ⟨rfl, rfl⟩) hh43 dX7_init_93 ?_
  refine j_aload_n (pc := 96) (k0 := 0) F 0 rfl dX7_init_96 ?_
  refine j_bipush (pc := 97) F 60 dX7_init_97 (by decide) ?_
  obtain ⟨h44, i45, hh44, h⟩ := b2_obt h
  obtain ⟨e46, es47, h, he, hes⟩ := addE_obt h
  refine j_newI (pc := 99) F (Or.inl ⟨rfl, rfl⟩) aw_int hh44 he hes dX7_init_99 ?_
  obtain ⟨h48, hh48, h⟩ := ob h
  refine j_putR (pc := 101) (ty := (.array .int)) F ⟨rfl, rfl⟩ flX7_56 fp7_15 (fun _ => ⟨rfl, rfl⟩) hh48 dX7_init_101 ?_
  refine j_aload_n (pc := 104) (k0 := 0) F 0 rfl dX7_init_104 ?_
  refine j_bipush (pc := 105) F 60 dX7_init_105 (by decide) ?_
  obtain ⟨h49, i50, hh49, h⟩ := b2_obt h
  obtain ⟨e51, es52, h, he, hes⟩ := addE_obt h
  refine j_newI (pc := 107) F (Or.inl ⟨rfl, rfl⟩) aw_int hh49 he hes dX7_init_107 ?_
  obtain ⟨h53, hh53, h⟩ := ob h
  refine j_putR (pc := 109) (ty := (.array .int)) F ⟨rfl, rfl⟩ flX7_59 fp7_16 (fun _ => ⟨rfl, rfl⟩) hh53 dX7_init_109 ?_
  refine j_aload_n (pc := 112) (k0 := 0) F 0 rfl dX7_init_112 ?_
  refine j_bipush (pc := 113) F 60 dX7_init_113 (by decide) ?_
  obtain ⟨h54, i55, hh54, h⟩ := b2_obt h
  obtain ⟨e56, es57, h, he, hes⟩ := addE_obt h
  refine j_newI (pc := 115) F (Or.inl ⟨rfl, rfl⟩) aw_int hh54 he hes dX7_init_115 ?_
  obtain ⟨h58, hh58, h⟩ := ob h
  refine j_putR (pc := 117) (ty := (.array .int)) F ⟨rfl, rfl⟩ flX7_62 fp7_17 (fun _ => ⟨rfl, rfl⟩) hh58 dX7_init_117 ?_
  refine j_aload_n (pc := 120) (k0 := 0) F 0 rfl dX7_init_120 ?_
  refine j_bipush (pc := 121) F 60 dX7_init_121 (by decide) ?_
  obtain ⟨h59, i60, hh59, h⟩ := b2_obt h
  obtain ⟨e61, es62, h, he, hes⟩ := addE_obt h
  refine j_newI (pc := 123) F (Or.inl ⟨rfl, rfl⟩) aw_int hh59 he hes dX7_init_123 ?_
  obtain ⟨h63, hh63, h⟩ := ob h
  refine j_putR (pc := 125) (ty := (.array .int)) F ⟨rfl, rfl⟩ flX7_65 fp7_18 (fun _ => ⟨rfl, rfl⟩) hh63 dX7_init_125 ?_
  refine j_aload_n (pc := 128) (k0 := 0) F 0 rfl dX7_init_128 ?_
  refine j_sipush (pc := 129) F 500 dX7_init_129 (by decide) ?_
  obtain ⟨h64, i65, hh64, h⟩ := b2_obt h
  obtain ⟨e66, es67, h, he, hes⟩ := addE_obt h
  refine j_newI (pc := 132) F (Or.inl ⟨rfl, rfl⟩) aw_int hh64 he hes dX7_init_132 ?_
  obtain ⟨h68, hh68, h⟩ := ob h
  refine j_putR (pc := 134) (ty := (.array .int)) F ⟨rfl, rfl⟩ flX7_68 fp7_19 (fun _ => ⟨rfl, rfl⟩) hh68 dX7_init_134 ?_
  refine j_aload_n (pc := 137) (k0 := 0) F 0 rfl dX7_init_137 ?_
  refine j_bipush (pc := 138) F 101 dX7_init_138 (by decide) ?_
  obtain ⟨h69, i70, hh69, h⟩ := b2_obt h
  obtain ⟨e71, es72, h, he, hes⟩ := addE_obt h
  refine j_newI (pc := 140) F (Or.inl ⟨rfl, rfl⟩) aw_int hh69 he hes dX7_init_140 ?_
  obtain ⟨h73, hh73, h⟩ := ob h
  refine j_putR (pc := 142) (ty := (.array .int)) F ⟨rfl, rfl⟩ flX7_71 fp7_20 (fun _ => ⟨rfl, rfl⟩) hh73 dX7_init_142 ?_
  refine j_aload_n (pc := 145) (k0 := 0) F 0 rfl dX7_init_145 ?_
  refine j_iconst (pc := 146) F 0 dX7_init_146 (by decide) ?_
  obtain ⟨i74, hi74, h⟩ := ob h
  refine j_putI (pc := 147) F flX7_74 fp7_21 (fun z => by cases z) hi74 dX7_init_147 ?_
  refine j_aload_n (pc := 150) (k0 := 0) F 0 rfl dX7_init_150 ?_
  refine j_iconst (pc := 151) F 0 dX7_init_151 (by decide) ?_
  obtain ⟨i75, hi75, h⟩ := ob h
  refine j_putI (pc := 152) F flX7_77 fp7_22 (fun z => by cases z) hi75 dX7_init_152 ?_
  refine j_aload_n (pc := 155) (k0 := 0) F 0 rfl dX7_init_155 ?_
  refine j_iconst (pc := 156) F 0 dX7_init_156 (by decide) ?_
  obtain ⟨i76, hi76, h⟩ := ob h
  refine j_putI (pc := 157) F flX7_80 fp7_23 (fun z => by cases z) hi76 dX7_init_157 ?_
  refine j_aload_n (pc := 160) (k0 := 0) F 0 rfl dX7_init_160 ?_
  refine j_bipush (pc := 161) F 100 dX7_init_161 (by decide) ?_
  obtain ⟨h77, i78, hh77, h⟩ := b2_obt h
  obtain ⟨e79, es80, h, he, hes⟩ := addE_obt h
  refine j_newI (pc := 163) F (Or.inr ⟨rfl, rfl⟩) aw_boolean hh77 he hes dX7_init_163 ?_
  obtain ⟨h81, hh81, h⟩ := ob h
  refine j_putR (pc := 165) (ty := (.array .boolean)) F ⟨rfl, rfl⟩ flX7_83 fp7_24 (fun _ => ⟨rfl, rfl⟩) hh81 dX7_init_165 ?_
  refine j_aload_n (pc := 168) (k0 := 0) F 0 rfl dX7_init_168 ?_
  refine j_iconst (pc := 169) F 0 dX7_init_169 (by decide) ?_
  obtain ⟨i82, hi82, h⟩ := ob h
  refine j_putI (pc := 170) F flX7_87 fp7_25 (fun z => by cases z) hi82 dX7_init_170 ?_
  refine j_aload_n (pc := 173) (k0 := 0) F 0 rfl dX7_init_173 ?_
  refine j_bipush (pc := 174) F 24 dX7_init_174 (by decide) ?_
  obtain ⟨h83, i84, hh83, h⟩ := b2_obt h
  obtain ⟨e85, es86, h, he, hes⟩ := addE_obt h
  refine j_newI (pc := 176) F (Or.inl ⟨rfl, rfl⟩) aw_int hh83 he hes dX7_init_176 ?_
  obtain ⟨h87, hh87, h⟩ := ob h
  refine j_putR (pc := 178) (ty := (.array .int)) F ⟨rfl, rfl⟩ flX7_90 fp7_26 (fun _ => ⟨rfl, rfl⟩) hh87 dX7_init_178 ?_
  refine j_aload_n (pc := 181) (k0 := 0) F 0 rfl dX7_init_181 ?_
  refine j_bipush (pc := 182) F 48 dX7_init_182 (by decide) ?_
  obtain ⟨h88, i89, hh88, h⟩ := b2_obt h
  obtain ⟨e90, es91, h, he, hes⟩ := addE_obt h
  refine j_newI (pc := 184) F (Or.inl ⟨rfl, rfl⟩) aw_int hh88 he hes dX7_init_184 ?_
  obtain ⟨h92, hh92, h⟩ := ob h
  refine j_putR (pc := 186) (ty := (.array .int)) F ⟨rfl, rfl⟩ flX7_93 fp7_27 (fun _ => ⟨rfl, rfl⟩) hh92 dX7_init_186 ?_
  refine j_aload_n (pc := 189) (k0 := 0) F 0 rfl dX7_init_189 ?_
  refine j_iconst (pc := 190) F 5 dX7_init_190 (by decide) ?_
  obtain ⟨h93, i94, hh93, h⟩ := b2_obt h
  obtain ⟨e95, es96, h, he, hes⟩ := addE_obt h
  refine j_newI (pc := 191) F (Or.inl ⟨rfl, rfl⟩) aw_int hh93 he hes dX7_init_191 ?_
  obtain ⟨h97, hh97, h⟩ := ob h
  refine j_putR (pc := 193) (ty := (.array .int)) F ⟨rfl, rfl⟩ flX7_96 fp7_28 (fun _ => ⟨rfl, rfl⟩) hh97 dX7_init_193 ?_
  refine j_aload_n (pc := 196) (k0 := 0) F 0 rfl dX7_init_196 ?_
  refine j_iconst (pc := 197) F 5 dX7_init_197 (by decide) ?_
  obtain ⟨h98, i99, hh98, h⟩ := b2_obt h
  obtain ⟨e100, es101, h, he, hes⟩ := addE_obt h
  refine j_newI (pc := 198) F (Or.inl ⟨rfl, rfl⟩) aw_int hh98 he hes dX7_init_198 ?_
  obtain ⟨h102, hh102, h⟩ := ob h
  refine j_putR (pc := 200) (ty := (.array .int)) F ⟨rfl, rfl⟩ flX7_99 fp7_29 (fun _ => ⟨rfl, rfl⟩) hh102 dX7_init_200 ?_
  refine j_aload_n (pc := 203) (k0 := 0) F 0 rfl dX7_init_203 ?_
  refine j_iconst (pc := 204) F 5 dX7_init_204 (by decide) ?_
  obtain ⟨h103, i104, hh103, h⟩ := b2_obt h
  obtain ⟨e105, es106, h, he, hes⟩ := addE_obt h
  refine j_newI (pc := 205) F (Or.inl ⟨rfl, rfl⟩) aw_int hh103 he hes dX7_init_205 ?_
  obtain ⟨h107, hh107, h⟩ := ob h
  refine j_putR (pc := 207) (ty := (.array .int)) F ⟨rfl, rfl⟩ flX7_102 fp7_30 (fun _ => ⟨rfl, rfl⟩) hh107 dX7_init_207 ?_
  refine j_aload_n (pc := 210) (k0 := 0) F 0 rfl dX7_init_210 ?_
  refine j_iconst (pc := 211) F 5 dX7_init_211 (by decide) ?_
  obtain ⟨h108, i109, hh108, h⟩ := b2_obt h
  obtain ⟨e110, es111, h, he, hes⟩ := addE_obt h
  refine j_newI (pc := 212) F (Or.inl ⟨rfl, rfl⟩) aw_int hh108 he hes dX7_init_212 ?_
  obtain ⟨h112, hh112, h⟩ := ob h
  refine j_putR (pc := 214) (ty := (.array .int)) F ⟨rfl, rfl⟩ flX7_105 fp7_31 (fun _ => ⟨rfl, rfl⟩) hh112 dX7_init_214 ?_
  refine j_aload_n (pc := 217) (k0 := 0) F 0 rfl dX7_init_217 ?_
  refine j_iconst (pc := 218) F 5 dX7_init_218 (by decide) ?_
  obtain ⟨h113, i114, hh113, h⟩ := b2_obt h
  obtain ⟨e115, es116, h, he, hes⟩ := addE_obt h
  refine j_newI (pc := 219) F (Or.inl ⟨rfl, rfl⟩) aw_int hh113 he hes dX7_init_219 ?_
  obtain ⟨h117, hh117, h⟩ := ob h
  refine j_putR (pc := 221) (ty := (.array .int)) F ⟨rfl, rfl⟩ flX7_108 fp7_32 (fun _ => ⟨rfl, rfl⟩) hh117 dX7_init_221 ?_
  refine j_aload_n (pc := 224) (k0 := 0) F 0 rfl dX7_init_224 ?_
  refine j_iconst (pc := 225) F 5 dX7_init_225 (by decide) ?_
  obtain ⟨h118, i119, hh118, h⟩ := b2_obt h
  obtain ⟨e120, es121, h, he, hes⟩ := addE_obt h
  refine j_newI (pc := 226) F (Or.inl ⟨rfl, rfl⟩) aw_int hh118 he hes dX7_init_226 ?_
  obtain ⟨h122, hh122, h⟩ := ob h
  refine j_putR (pc := 228) (ty := (.array .int)) F ⟨rfl, rfl⟩ flX7_111 fp7_33 (fun _ => ⟨rfl, rfl⟩) hh122 dX7_init_228 ?_
  refine j_aload_n (pc := 231) (k0 := 0) F 0 rfl dX7_init_231 ?_
  refine j_sipush (pc := 232) F 240 dX7_init_232 (by decide) ?_
  obtain ⟨h123, i124, hh123, h⟩ := b2_obt h
  obtain ⟨e125, es126, h, he, hes⟩ := addE_obt h
  refine j_newI (pc := 235) F (Or.inl ⟨rfl, rfl⟩) aw_int hh123 he hes dX7_init_235 ?_
  obtain ⟨h127, hh127, h⟩ := ob h
  refine j_putR (pc := 237) (ty := (.array .int)) F ⟨rfl, rfl⟩ flX7_114 fp7_34 (fun _ => ⟨rfl, rfl⟩) hh127 dX7_init_237 ?_
  refine j_aload_n (pc := 240) (k0 := 0) F 0 rfl dX7_init_240 ?_
  refine j_sipush (pc := 241) F 240 dX7_init_241 (by decide) ?_
  obtain ⟨h128, i129, hh128, h⟩ := b2_obt h
  obtain ⟨e130, es131, h, he, hes⟩ := addE_obt h
  refine j_newI (pc := 244) F (Or.inl ⟨rfl, rfl⟩) aw_int hh128 he hes dX7_init_244 ?_
  obtain ⟨h132, hh132, h⟩ := ob h
  refine j_putR (pc := 246) (ty := (.array .int)) F ⟨rfl, rfl⟩ flX7_117 fp7_35 (fun _ => ⟨rfl, rfl⟩) hh132 dX7_init_246 ?_
  refine j_aload_n (pc := 249) (k0 := 0) F 0 rfl dX7_init_249 ?_
  refine j_sipush (pc := 250) F 240 dX7_init_250 (by decide) ?_
  obtain ⟨h133, i134, hh133, h⟩ := b2_obt h
  obtain ⟨e135, es136, h, he, hes⟩ := addE_obt h
  refine j_newI (pc := 253) F (Or.inl ⟨rfl, rfl⟩) aw_int hh133 he hes dX7_init_253 ?_
  obtain ⟨h137, hh137, h⟩ := ob h
  refine j_putR (pc := 255) (ty := (.array .int)) F ⟨rfl, rfl⟩ flX7_120 fp7_36 (fun _ => ⟨rfl, rfl⟩) hh137 dX7_init_255 ?_
  refine j_aload_n (pc := 258) (k0 := 0) F 0 rfl dX7_init_258 ?_
  refine j_sipush (pc := 259) F 240 dX7_init_259 (by decide) ?_
  obtain ⟨h138, i139, hh138, h⟩ := b2_obt h
  obtain ⟨e140, es141, h, he, hes⟩ := addE_obt h
  refine j_newI (pc := 262) F (Or.inl ⟨rfl, rfl⟩) aw_int hh138 he hes dX7_init_262 ?_
  obtain ⟨h142, hh142, h⟩ := ob h
  refine j_putR (pc := 264) (ty := (.array .int)) F ⟨rfl, rfl⟩ flX7_123 fp7_37 (fun _ => ⟨rfl, rfl⟩) hh142 dX7_init_264 ?_
  refine j_aload_n (pc := 267) (k0 := 0) F 0 rfl dX7_init_267 ?_
  refine j_sipush (pc := 268) F 240 dX7_init_268 (by decide) ?_
  obtain ⟨h143, i144, hh143, h⟩ := b2_obt h
  obtain ⟨e145, es146, h, he, hes⟩ := addE_obt h
  refine j_newI (pc := 271) F (Or.inl ⟨rfl, rfl⟩) aw_int hh143 he hes dX7_init_271 ?_
  obtain ⟨h147, hh147, h⟩ := ob h
  refine j_putR (pc := 273) (ty := (.array .int)) F ⟨rfl, rfl⟩ flX7_126 fp7_38 (fun _ => ⟨rfl, rfl⟩) hh147 dX7_init_273 ?_
  refine j_aload_n (pc := 276) (k0 := 0) F 0 rfl dX7_init_276 ?_
  refine j_iconst (pc := 277) F 0 dX7_init_277 (by decide) ?_
  obtain ⟨i148, hi148, h⟩ := ob h
  refine j_putI (pc := 278) F flX7_129 fp7_39 (fun z => by cases z) hi148 dX7_init_278 ?_
  refine j_aload_n (pc := 281) (k0 := 0) F 0 rfl dX7_init_281 ?_
  refine j_bipush (pc := 282) F 10 dX7_init_282 (by decide) ?_
  obtain ⟨h149, i150, hh149, h⟩ := b2_obt h
  obtain ⟨e151, es152, h, he, hes⟩ := addE_obt h
  refine j_newI (pc := 284) F (Or.inl ⟨rfl, rfl⟩) aw_int hh149 he hes dX7_init_284 ?_
  obtain ⟨h153, hh153, h⟩ := ob h
  refine j_putR (pc := 286) (ty := (.array .int)) F ⟨rfl, rfl⟩ flX7_132 fp7_40 (fun _ => ⟨rfl, rfl⟩) hh153 dX7_init_286 ?_
  refine j_aload_n (pc := 289) (k0 := 0) F 0 rfl dX7_init_289 ?_
  refine j_bipush (pc := 290) F 10 dX7_init_290 (by decide) ?_
  obtain ⟨h154, i155, hh154, h⟩ := b2_obt h
  obtain ⟨e156, es157, h, he, hes⟩ := addE_obt h
  refine j_newI (pc := 292) F (Or.inl ⟨rfl, rfl⟩) aw_int hh154 he hes dX7_init_292 ?_
  obtain ⟨h158, hh158, h⟩ := ob h
  refine j_putR (pc := 294) (ty := (.array .int)) F ⟨rfl, rfl⟩ flX7_135 fp7_41 (fun _ => ⟨rfl, rfl⟩) hh158 dX7_init_294 ?_
  refine j_aload_n (pc := 297) (k0 := 0) F 0 rfl dX7_init_297 ?_
  refine j_bipush (pc := 298) F 10 dX7_init_298 (by decide) ?_
  obtain ⟨h159, i160, hh159, h⟩ := b2_obt h
  obtain ⟨e161, es162, h, he, hes⟩ := addE_obt h
  refine j_newI (pc := 300) F (Or.inl ⟨rfl, rfl⟩) aw_int hh159 he hes dX7_init_300 ?_
  obtain ⟨h163, hh163, h⟩ := ob h
  refine j_putR (pc := 302) (ty := (.array .int)) F ⟨rfl, rfl⟩ flX7_138 fp7_42 (fun _ => ⟨rfl, rfl⟩) hh163 dX7_init_302 ?_
  refine j_aload_n (pc := 305) (k0 := 0) F 0 rfl dX7_init_305 ?_
  refine j_bipush (pc := 306) F 10 dX7_init_306 (by decide) ?_
  obtain ⟨h164, i165, hh164, h⟩ := b2_obt h
  obtain ⟨e166, es167, h, he, hes⟩ := addE_obt h
  refine j_newI (pc := 308) F (Or.inl ⟨rfl, rfl⟩) aw_int hh164 he hes dX7_init_308 ?_
  obtain ⟨h168, hh168, h⟩ := ob h
  refine j_putR (pc := 310) (ty := (.array .int)) F ⟨rfl, rfl⟩ flX7_141 fp7_43 (fun _ => ⟨rfl, rfl⟩) hh168 dX7_init_310 ?_
  refine j_aload_n (pc := 313) (k0 := 0) F 0 rfl dX7_init_313 ?_
  refine j_bipush (pc := 314) F 10 dX7_init_314 (by decide) ?_
  obtain ⟨h169, i170, hh169, h⟩ := b2_obt h
  obtain ⟨e171, es172, h, he, hes⟩ := addE_obt h
  refine j_newI (pc := 316) F (Or.inl ⟨rfl, rfl⟩) aw_int hh169 he hes dX7_init_316 ?_
  obtain ⟨h173, hh173, h⟩ := ob h
  refine j_putR (pc := 318) (ty := (.array .int)) F ⟨rfl, rfl⟩ flX7_144 fp7_44 (fun _ => ⟨rfl, rfl⟩) hh173 dX7_init_318 ?_
  refine j_aload_n (pc := 321) (k0 := 0) F 0 rfl dX7_init_321 ?_
  refine j_iconst (pc := 322) F 0 dX7_init_322 (by decide) ?_
  obtain ⟨i174, hi174, h⟩ := ob h
  refine j_putZ (pc := 323) F (Or.inl rfl) flX7_147 fp7_45 (fun z => by cases z) hi174 dX7_init_323 ?_
  refine j_aload_n (pc := 326) (k0 := 0) F 0 rfl dX7_init_326 ?_
  refine j_iconst (pc := 327) F 3 dX7_init_327 (by decide) ?_
  obtain ⟨i175, hi175, h⟩ := ob h
  refine j_putI (pc := 328) F flX7_151 fp7_46 (fun z => by cases z) hi175 dX7_init_328 ?_
  refine j_aload_n (pc := 331) (k0 := 0) F 0 rfl dX7_init_331 ?_
  refine j_bipush (pc := 332) F 10 dX7_init_332 (by decide) ?_
  obtain ⟨i176, hi176, h⟩ := ob h
  refine j_putI (pc := 334) F flX7_154 fp7_47 (fun z => by cases z) hi176 dX7_init_334 ?_
  refine j_aload_n (pc := 337) (k0 := 0) F 0 rfl dX7_init_337 ?_
  refine j_iconst (pc := 338) F 0 dX7_init_338 (by decide) ?_
  obtain ⟨i177, hi177, h⟩ := ob h
  refine j_putI (pc := 339) F flX7_157 fp7_48 (fun z => by cases z) hi177 dX7_init_339 ?_
  refine j_aload_n (pc := 342) (k0 := 0) F 0 rfl dX7_init_342 ?_
  refine j_iconst (pc := 343) F (-1) dX7_init_343 (by decide) ?_
  obtain ⟨i178, hi178, h⟩ := ob h
  refine j_putI (pc := 344) F flX7_160 fp7_49 (fun z => by cases z) hi178 dX7_init_344 ?_
  refine j_aload_n (pc := 347) (k0 := 0) F 0 rfl dX7_init_347 ?_
  refine j_iconst (pc := 348) F 0 dX7_init_348 (by decide) ?_
  obtain ⟨i179, hi179, h⟩ := ob h
  refine j_putI (pc := 349) F flX7_163 fp7_50 (fun z => by cases z) hi179 dX7_init_349 ?_
  refine j_aload_n (pc := 352) (k0 := 0) F 0 rfl dX7_init_352 ?_
  refine j_iconst (pc := 353) F 0 dX7_init_353 (by decide) ?_
  obtain ⟨i180, hi180, h⟩ := ob h
  refine j_putI (pc := 354) F flX7_166 fp7_51 (fun z => by cases z) hi180 dX7_init_354 ?_
  refine j_aload_n (pc := 357) (k0 := 0) F 0 rfl dX7_init_357 ?_
  refine j_iconst (pc := 358) F 2 dX7_init_358 (by decide) ?_
  obtain ⟨h181, i182, hh181, h⟩ := b2_obt h
  obtain ⟨e183, es184, h, he, hes⟩ := addE_obt h
  refine j_newI (pc := 359) F (Or.inl ⟨rfl, rfl⟩) aw_int hh181 he hes dX7_init_359 ?_
  obtain ⟨h185, hh185, h⟩ := ob h
  refine j_putR (pc := 361) (ty := (.array .int)) F ⟨rfl, rfl⟩ flX7_169 fp7_52 (fun _ => ⟨rfl, rfl⟩) hh185 dX7_init_361 ?_
  refine j_aload_n (pc := 364) (k0 := 0) F 0 rfl dX7_init_364 ?_
  refine j_iconst (pc := 365) F 5 dX7_init_365 (by decide) ?_
  obtain ⟨h186, i187, hh186, h⟩ := b2_obt h
  obtain ⟨e188, es189, h, he, hes⟩ := addE_obt h
  refine j_newI (pc := 366) F (Or.inl ⟨rfl, rfl⟩) aw_int hh186 he hes dX7_init_366 ?_
  obtain ⟨h190, hh190, h⟩ := ob h
  refine j_putR (pc := 368) (ty := (.array .int)) F ⟨rfl, rfl⟩ flX7_172 fp7_53 (fun _ => ⟨rfl, rfl⟩) hh190 dX7_init_368 ?_
  refine j_aload_n (pc := 371) (k0 := 0) F 0 rfl dX7_init_371 ?_
  refine j_iconst (pc := 372) F 5 dX7_init_372 (by decide) ?_
  obtain ⟨h191, i192, hh191, h⟩ := b2_obt h
  obtain ⟨e193, es194, h, he, hes⟩ := addE_obt h
  refine j_newI (pc := 373) F (Or.inl ⟨rfl, rfl⟩) aw_int hh191 he hes dX7_init_373 ?_
  obtain ⟨h195, hh195, h⟩ := ob h
  refine j_putR (pc := 375) (ty := (.array .int)) F ⟨rfl, rfl⟩ flX7_175 fp7_54 (fun _ => ⟨rfl, rfl⟩) hh195 dX7_init_375 ?_
  refine j_aload_n (pc := 378) (k0 := 0) F 0 rfl dX7_init_378 ?_
  refine j_iconst (pc := 379) F 5 dX7_init_379 (by decide) ?_
  obtain ⟨h196, i197, hh196, h⟩ := b2_obt h
  obtain ⟨e198, es199, h, he, hes⟩ := addE_obt h
  refine j_newI (pc := 380) F (Or.inl ⟨rfl, rfl⟩) aw_int hh196 he hes dX7_init_380 ?_
  obtain ⟨h200, hh200, h⟩ := ob h
  refine j_putR (pc := 382) (ty := (.array .int)) F ⟨rfl, rfl⟩ flX7_178 fp7_55 (fun _ => ⟨rfl, rfl⟩) hh200 dX7_init_382 ?_
  refine j_aload_n (pc := 385) (k0 := 0) F 0 rfl dX7_init_385 ?_
  refine j_bipush (pc := 386) F 24 dX7_init_386 (by decide) ?_
  obtain ⟨h201, i202, hh201, h⟩ := b2_obt h
  obtain ⟨e203, es204, h, he, hes⟩ := addE_obt h
  refine j_newI (pc := 388) F (Or.inl ⟨rfl, rfl⟩) aw_int hh201 he hes dX7_init_388 ?_
  obtain ⟨h205, hh205, h⟩ := ob h
  refine j_putR (pc := 390) (ty := (.array .int)) F ⟨rfl, rfl⟩ flX7_181 fp7_56 (fun _ => ⟨rfl, rfl⟩) hh205 dX7_init_390 ?_
  refine j_aload_n (pc := 393) (k0 := 0) F 0 rfl dX7_init_393 ?_
  refine j_bipush (pc := 394) F 10 dX7_init_394 (by decide) ?_
  obtain ⟨h206, i207, hh206, h⟩ := b2_obt h
  obtain ⟨e208, es209, h, he, hes⟩ := addE_obt h
  refine j_newI (pc := 396) F (Or.inl ⟨rfl, rfl⟩) aw_int hh206 he hes dX7_init_396 ?_
  obtain ⟨h210, hh210, h⟩ := ob h
  refine j_putR (pc := 398) (ty := (.array .int)) F ⟨rfl, rfl⟩ flX7_184 fp7_57 (fun _ => ⟨rfl, rfl⟩) hh210 dX7_init_398 ?_
  refine j_aload_n (pc := 401) (k0 := 0) F 0 rfl dX7_init_401 ?_
  refine j_bipush (pc := 402) F 10 dX7_init_402 (by decide) ?_
  obtain ⟨h211, i212, hh211, h⟩ := b2_obt h
  obtain ⟨e213, es214, h, he, hes⟩ := addE_obt h
  refine j_newI (pc := 404) F (Or.inl ⟨rfl, rfl⟩) aw_int hh211 he hes dX7_init_404 ?_
  obtain ⟨h215, hh215, h⟩ := ob h
  refine j_putR (pc := 406) (ty := (.array .int)) F ⟨rfl, rfl⟩ flX7_187 fp7_58 (fun _ => ⟨rfl, rfl⟩) hh215 dX7_init_406 ?_
  refine j_aload_n (pc := 409) (k0 := 0) F 0 rfl dX7_init_409 ?_
  refine j_bipush (pc := 410) F 10 dX7_init_410 (by decide) ?_
  obtain ⟨h216, i217, hh216, h⟩ := b2_obt h
  obtain ⟨e218, es219, h, he, hes⟩ := addE_obt h
  refine j_newI (pc := 412) F (Or.inl ⟨rfl, rfl⟩) aw_int hh216 he hes dX7_init_412 ?_
  obtain ⟨h220, hh220, h⟩ := ob h
  refine j_putR (pc := 414) (ty := (.array .int)) F ⟨rfl, rfl⟩ flX7_190 fp7_59 (fun _ => ⟨rfl, rfl⟩) hh220 dX7_init_414 ?_
  refine j_aload_n (pc := 417) (k0 := 0) F 0 rfl dX7_init_417 ?_
  refine j_bipush (pc := 418) F 10 dX7_init_418 (by decide) ?_
  obtain ⟨h221, i222, hh221, h⟩ := b2_obt h
  obtain ⟨e223, es224, h, he, hes⟩ := addE_obt h
  refine j_newI (pc := 420) F (Or.inl ⟨rfl, rfl⟩) aw_int hh221 he hes dX7_init_420 ?_
  obtain ⟨h225, hh225, h⟩ := ob h
  refine j_putR (pc := 422) (ty := (.array .int)) F ⟨rfl, rfl⟩ flX7_193 fp7_60 (fun _ => ⟨rfl, rfl⟩) hh225 dX7_init_422 ?_
  refine j_aload_n (pc := 425) (k0 := 0) F 0 rfl dX7_init_425 ?_
  refine j_iconst (pc := 426) F 0 dX7_init_426 (by decide) ?_
  obtain ⟨i226, hi226, h⟩ := ob h
  refine j_putI (pc := 427) F flX7_196 fp7_61 (fun z => by cases z) hi226 dX7_init_427 ?_
  refine j_aload_n (pc := 430) (k0 := 0) F 0 rfl dX7_init_430 ?_
  refine j_bipush (pc := 431) F 20 dX7_init_431 (by decide) ?_
  obtain ⟨h227, i228, hh227, h⟩ := b2_obt h
  obtain ⟨e229, es230, h, he, hes⟩ := addE_obt h
  refine j_newI (pc := 433) F (Or.inl ⟨rfl, rfl⟩) aw_int hh227 he hes dX7_init_433 ?_
  obtain ⟨h231, hh231, h⟩ := ob h
  refine j_putR (pc := 435) (ty := (.array .int)) F ⟨rfl, rfl⟩ flX7_199 fp7_62 (fun _ => ⟨rfl, rfl⟩) hh231 dX7_init_435 ?_
  refine j_aload_n (pc := 438) (k0 := 0) F 0 rfl dX7_init_438 ?_
  refine j_bipush (pc := 439) F 6 dX7_init_439 (by decide) ?_
  obtain ⟨h232, i233, hh232, h⟩ := b2_obt h
  obtain ⟨e234, es235, h, he, hes⟩ := addE_obt h
  refine j_newI (pc := 441) F (Or.inl ⟨rfl, rfl⟩) aw_int hh232 he hes dX7_init_441 ?_
  refine j_dup (pc := 443) F dX7_init_443 rfl ?_
  refine j_iconst (pc := 444) F 0 dX7_init_444 (by decide) ?_
  refine j_iconst (pc := 445) F (-1) dX7_init_445 (by decide) ?_
  obtain ⟨i236, hi236, h⟩ := ob h
  refine j_iast (pc := 446) F hi236 dX7_init_446 ?_
  refine j_dup (pc := 447) F dX7_init_447 rfl ?_
  refine j_iconst (pc := 448) F 1 dX7_init_448 (by decide) ?_
  refine j_iconst (pc := 449) F (-1) dX7_init_449 (by decide) ?_
  obtain ⟨i237, hi237, h⟩ := ob h
  refine j_iast (pc := 450) F hi237 dX7_init_450 ?_
  refine j_dup (pc := 451) F dX7_init_451 rfl ?_
  refine j_iconst (pc := 452) F 2 dX7_init_452 (by decide) ?_
  refine j_iconst (pc := 453) F (-1) dX7_init_453 (by decide) ?_
  obtain ⟨i238, hi238, h⟩ := ob h
  refine j_iast (pc := 454) F hi238 dX7_init_454 ?_
  refine j_dup (pc := 455) F dX7_init_455 rfl ?_
  refine j_iconst (pc := 456) F 3 dX7_init_456 (by decide) ?_
  refine j_iconst (pc := 457) F (-1) dX7_init_457 (by decide) ?_
  obtain ⟨i239, hi239, h⟩ := ob h
  refine j_iast (pc := 458) F hi239 dX7_init_458 ?_
  refine j_dup (pc := 459) F dX7_init_459 rfl ?_
  refine j_iconst (pc := 460) F 4 dX7_init_460 (by decide) ?_
  refine j_iconst (pc := 461) F (-1) dX7_init_461 (by decide) ?_
  obtain ⟨i240, hi240, h⟩ := ob h
  refine j_iast (pc := 462) F hi240 dX7_init_462 ?_
  refine j_dup (pc := 463) F dX7_init_463 rfl ?_
  refine j_iconst (pc := 464) F 5 dX7_init_464 (by decide) ?_
  refine j_iconst (pc := 465) F (-1) dX7_init_465 (by decide) ?_
  obtain ⟨i241, hi241, h⟩ := ob h
  refine j_iast (pc := 466) F hi241 dX7_init_466 ?_
  obtain ⟨h242, hh242, h⟩ := ob h
  refine j_putR (pc := 467) (ty := (.array .int)) F ⟨rfl, rfl⟩ flX7_202 fp7_63 (fun _ => ⟨rfl, rfl⟩) hh242 dX7_init_467 ?_
  refine j_aload_n (pc := 470) (k0 := 0) F 0 rfl dX7_init_470 ?_
  refine j_bipush (pc := 471) F 6 dX7_init_471 (by decide) ?_
  obtain ⟨h243, i244, hh243, h⟩ := b2_obt h
  obtain ⟨e245, es246, h, he, hes⟩ := addE_obt h
  refine j_newI (pc := 473) F (Or.inl ⟨rfl, rfl⟩) aw_int hh243 he hes dX7_init_473 ?_
  obtain ⟨h247, hh247, h⟩ := ob h
  refine j_putR (pc := 475) (ty := (.array .int)) F ⟨rfl, rfl⟩ flX7_205 fp7_64 (fun _ => ⟨rfl, rfl⟩) hh247 dX7_init_475 ?_
  refine j_aload_n (pc := 478) (k0 := 0) F 0 rfl dX7_init_478 ?_
  refine j_sipush (pc := 479) F 360 dX7_init_479 (by decide) ?_
  obtain ⟨h248, l249, hh248, h⟩ := b2_obt h
  obtain ⟨e250, es251, h, he, hes⟩ := addE_obt h
  refine j_newL (pc := 482) F rfl aw_long hh248 he hes dX7_init_482 ?_
  obtain ⟨h252, hh252, h⟩ := ob h
  refine j_putR (pc := 484) (ty := (.array .long)) F ⟨rfl, rfl⟩ flX7_208 fp7_65 (fun _ => ⟨rfl, rfl⟩) hh252 dX7_init_484 ?_
  refine j_aload_n (pc := 487) (k0 := 0) F 0 rfl dX7_init_487 ?_
  refine j_bipush (pc := 488) F 60 dX7_init_488 (by decide) ?_
  obtain ⟨h253, l254, hh253, h⟩ := b2_obt h
  obtain ⟨e255, es256, h, he, hes⟩ := addE_obt h
  refine j_newL (pc := 490) F rfl aw_long hh253 he hes dX7_init_490 ?_
  obtain ⟨h257, hh257, h⟩ := ob h
  refine j_putR (pc := 492) (ty := (.array .long)) F ⟨rfl, rfl⟩ flX7_212 fp7_66 (fun _ => ⟨rfl, rfl⟩) hh257 dX7_init_492 ?_
  have g0 := Option.some.inj h
  obtain ⟨hq, g1⟩ := Prod.mk.inj g0
  obtain ⟨q1, q2⟩ := Prod.mk.inj hq
  obtain ⟨q3, g2⟩ := Prod.mk.inj g1
  obtain ⟨q4, g3⟩ := Prod.mk.inj g2
  obtain ⟨q5, g4⟩ := Prod.mk.inj g3
  subst q1
  subst q2
  subst q3
  subst q4
  subst q5
  subst g4
  exact j_vret (pc := 495) F dX7_init_495
theorem ctX7_init (G : GT) {sh : SH} {I : IH} {L : LH} {n : Nat} {this : Nat} {sh' : SH} {I' : IH} {L' : LH} {n' : Nat} {e es : Nat}  (h : fX7_init this sh I L n = some ((e, es), (sh', I', L', n'))) : Ct G yX7_init cX7_init 1 none 1 [.ref this] sh I L n (none) sh' I' L' n' e es := by
  refine ct_of (y := yX7_init) (by decide +kernel) rfl (fun X F => ?_)
  exact jbX7_init_0 G F h
theorem dX7_in_0 : decode cX7_in 0 = .ok (.iload_n 1, 1) := by decide +kernel
theorem dX7_in_1 : decode cX7_in 1 = .ok (.iload_n 2, 1) := by decide +kernel
theorem dX7_in_2 : decode cX7_in 2 = .ok (.if_icmp .lt 12, 3) := by decide +kernel
theorem dX7_in_5 : decode cX7_in 5 = .ok (.iload_n 1, 1) := by decide +kernel
theorem dX7_in_6 : decode cX7_in 6 = .ok (.iload_n 3, 1) := by decide +kernel
theorem dX7_in_7 : decode cX7_in 7 = .ok (.if_icmp .gt 7, 3) := by decide +kernel
theorem dX7_in_10 : decode cX7_in 10 = .ok (.iconst 1, 1) := by decide +kernel
theorem dX7_in_11 : decode cX7_in 11 = .ok (.goto 4, 3) := by decide +kernel
theorem dX7_in_14 : decode cX7_in 14 = .ok (.iconst 0, 1) := by decide +kernel
theorem dX7_in_15 : decode cX7_in 15 = .ok (.ireturn, 1) := by decide +kernel
def fX7_in (v1 : Int32) (v2 : Int32) (v3 : Int32) : Int32 :=
  if v1 < v2 then (
    0) else
  if v3 < v1 then (
    0) else
  1
set_option maxHeartbeats 4000000 in
set_option maxRecDepth 20000 in
theorem jbX7_in_0 (G : GT) {X : XT} {sh : SH} {I : IH} {L : LH} {n : Nat} {r : Int32}  {this : Nat}  {v1 : Int32} {v2 : Int32} {v3 : Int32} (F : MF G X RX7 cX7_in 4 0 (some .boolean) "in") (h : fX7_in v1 v2 v3 = r) : J G X (QE G X (some (.int r)) sh I L n) 4 sh I L n 0 0 0 [(0, .ref this), (1, .int v1), (2, .int v2), (3, .int v3)] [] := by
  unfold fX7_in at h
  refine j_iload_n (pc := 0) (k0 := 1) F 1 rfl dX7_in_0 ?_
  refine j_iload_n (pc := 1) (k0 := 2) F 2 rfl dX7_in_1 ?_
  refine j_icmp_lt (pc := 2) F 14 dX7_in_2 rfl (fun c => ?_) (fun c => ?_)
  · have h := iz_t c h
    refine j_iconst (pc := 14) F 0 dX7_in_14 (by decide) ?_
    subst h
    exact j_zret (pc := 15) F (Or.inl rfl) dX7_in_15
  · have h := iz_f c h
    refine j_iload_n (pc := 5) (k0 := 1) F 1 rfl dX7_in_5 ?_
    refine j_iload_n (pc := 6) (k0 := 3) F 3 rfl dX7_in_6 ?_
    refine j_icmp_gt (pc := 7) F 14 dX7_in_7 rfl (fun c => ?_) (fun c => ?_)
    · have h := iz_t c h
      refine j_iconst (pc := 14) F 0 dX7_in_14 (by decide) ?_
      subst h
      exact j_zret (pc := 15) F (Or.inl rfl) dX7_in_15
    · have h := iz_f c h
      refine j_iconst (pc := 10) F 1 dX7_in_10 (by decide) ?_
      refine j_goto (pc := 11) F 15 dX7_in_11 rfl ?_
      subst h
      exact j_zret (pc := 15) F (Or.inr rfl) dX7_in_15
theorem ctX7_in (G : GT) {sh : SH} {I : IH} {L : LH} {n : Nat} {this : Nat} {v1 : Int32} {v2 : Int32} {v3 : Int32} : Ct G yX7_in cX7_in 4 (some .boolean) 0 [.ref this, .int v1, .int v2, .int v3] sh I L n (some (.int (fX7_in v1 v2 v3))) sh I L n 0 0 := by
  refine ct_of (y := yX7_in) (by decide +kernel) rfl (fun X F => ?_)
  exact jbX7_in_0 G F rfl
theorem zbX7_in {v1 : Int32} {v2 : Int32} {v3 : Int32} : fX7_in v1 v2 v3 = 0 ∨ fX7_in v1 v2 v3 = 1 := by
  unfold fX7_in
  repeat' split
  all_goals first | exact Or.inl rfl | exact Or.inr rfl
theorem dX7_min_0 : decode cX7_min 0 = .ok (.iload_n 1, 1) := by decide +kernel
theorem dX7_min_1 : decode cX7_min 1 = .ok (.iload_n 2, 1) := by decide +kernel
theorem dX7_min_2 : decode cX7_min 2 = .ok (.if_icmp .ge 7, 3) := by decide +kernel
theorem dX7_min_5 : decode cX7_min 5 = .ok (.iload_n 1, 1) := by decide +kernel
theorem dX7_min_6 : decode cX7_min 6 = .ok (.goto 4, 3) := by decide +kernel
theorem dX7_min_9 : decode cX7_min 9 = .ok (.iload_n 2, 1) := by decide +kernel
theorem dX7_min_10 : decode cX7_min 10 = .ok (.ireturn, 1) := by decide +kernel
def fX7_min (v1 : Int32) (v2 : Int32) : Int32 :=
  if v2 ≤ v1 then (
    v2) else
  v1
set_option maxHeartbeats 4000000 in
set_option maxRecDepth 20000 in
theorem jbX7_min_0 (G : GT) {X : XT} {sh : SH} {I : IH} {L : LH} {n : Nat} {r : Int32}  {this : Nat}  {v1 : Int32} {v2 : Int32} (F : MF G X RX7 cX7_min 3 0 (some .int) "min") (h : fX7_min v1 v2 = r) : J G X (QE G X (some (.int r)) sh I L n) 3 sh I L n 0 0 0 [(0, .ref this), (1, .int v1), (2, .int v2)] [] := by
  unfold fX7_min at h
  refine j_iload_n (pc := 0) (k0 := 1) F 1 rfl dX7_min_0 ?_
  refine j_iload_n (pc := 1) (k0 := 2) F 2 rfl dX7_min_1 ?_
  refine j_icmp_ge (pc := 2) F 9 dX7_min_2 rfl (fun c => ?_) (fun c => ?_)
  · have h := iz_t c h
    refine j_iload_n (pc := 9) (k0 := 2) F 2 rfl dX7_min_9 ?_
    subst h
    exact j_iret (pc := 10) F dX7_min_10
  · have h := iz_f c h
    refine j_iload_n (pc := 5) (k0 := 1) F 1 rfl dX7_min_5 ?_
    refine j_goto (pc := 6) F 10 dX7_min_6 rfl ?_
    subst h
    exact j_iret (pc := 10) F dX7_min_10
theorem ctX7_min (G : GT) {sh : SH} {I : IH} {L : LH} {n : Nat} {this : Nat} {v1 : Int32} {v2 : Int32} : Ct G yX7_min cX7_min 3 (some .int) 0 [.ref this, .int v1, .int v2] sh I L n (some (.int (fX7_min v1 v2))) sh I L n 0 0 := by
  refine ct_of (y := yX7_min) (by decide +kernel) rfl (fun X F => ?_)
  exact jbX7_min_0 G F rfl
theorem dX7_has_0 : decode cX7_has 0 = .ok (.iload_n 1, 1) := by decide +kernel
theorem dX7_has_1 : decode cX7_has 1 = .ok (.iload_n 2, 1) := by decide +kernel
theorem dX7_has_2 : decode cX7_has 2 = .ok (.ishr, 1) := by decide +kernel
theorem dX7_has_3 : decode cX7_has 3 = .ok (.iconst 1, 1) := by decide +kernel
theorem dX7_has_4 : decode cX7_has 4 = .ok (.iand, 1) := by decide +kernel
theorem dX7_has_5 : decode cX7_has 5 = .ok (.iconst 1, 1) := by decide +kernel
theorem dX7_has_6 : decode cX7_has 6 = .ok (.if_icmp .ne 7, 3) := by decide +kernel
theorem dX7_has_9 : decode cX7_has 9 = .ok (.iconst 1, 1) := by decide +kernel
theorem dX7_has_10 : decode cX7_has 10 = .ok (.goto 4, 3) := by decide +kernel
theorem dX7_has_13 : decode cX7_has 13 = .ok (.iconst 0, 1) := by decide +kernel
theorem dX7_has_14 : decode cX7_has 14 = .ok (.ireturn, 1) := by decide +kernel
def fX7_has (v1 : Int32) (v2 : Int32) : Int32 :=
  if ((v1 >>> (v2 &&& 31)) &&& 1) = 1 then (
    1) else
  0
set_option maxHeartbeats 4000000 in
set_option maxRecDepth 20000 in
theorem jbX7_has_0 (G : GT) {X : XT} {sh : SH} {I : IH} {L : LH} {n : Nat} {r : Int32}  {this : Nat}  {v1 : Int32} {v2 : Int32} (F : MF G X RX7 cX7_has 3 0 (some .boolean) "has") (h : fX7_has v1 v2 = r) : J G X (QE G X (some (.int r)) sh I L n) 3 sh I L n 0 0 0 [(0, .ref this), (1, .int v1), (2, .int v2)] [] := by
  unfold fX7_has at h
  refine j_iload_n (pc := 0) (k0 := 1) F 1 rfl dX7_has_0 ?_
  refine j_iload_n (pc := 1) (k0 := 2) F 2 rfl dX7_has_1 ?_
  refine j_ishr (pc := 2) F dX7_has_2 ?_
  refine j_iconst (pc := 3) F 1 dX7_has_3 (by decide) ?_
  refine j_iand (pc := 4) F dX7_has_4 ?_
  refine j_iconst (pc := 5) F 1 dX7_has_5 (by decide) ?_
  refine j_icmp_ne (pc := 6) F 13 dX7_has_6 rfl (fun c => ?_) (fun c => ?_)
  · have h := iz_f c h
    refine j_iconst (pc := 13) F 0 dX7_has_13 (by decide) ?_
    subst h
    exact j_zret (pc := 14) F (Or.inl rfl) dX7_has_14
  · have h := iz_t c h
    refine j_iconst (pc := 9) F 1 dX7_has_9 (by decide) ?_
    refine j_goto (pc := 10) F 14 dX7_has_10 rfl ?_
    subst h
    exact j_zret (pc := 14) F (Or.inr rfl) dX7_has_14
theorem ctX7_has (G : GT) {sh : SH} {I : IH} {L : LH} {n : Nat} {this : Nat} {v1 : Int32} {v2 : Int32} : Ct G yX7_has cX7_has 3 (some .boolean) 0 [.ref this, .int v1, .int v2] sh I L n (some (.int (fX7_has v1 v2))) sh I L n 0 0 := by
  refine ct_of (y := yX7_has) (by decide +kernel) rfl (fun X F => ?_)
  exact jbX7_has_0 G F rfl
theorem zbX7_has {v1 : Int32} {v2 : Int32} : fX7_has v1 v2 = 0 ∨ fX7_has v1 v2 = 1 := by
  unfold fX7_has
  repeat' split
  all_goals first | exact Or.inl rfl | exact Or.inr rfl
theorem dX7_isPlace_0 : decode cX7_isPlace 0 = .ok (.aload_n 0, 1) := by decide +kernel
theorem dX7_isPlace_1 : decode cX7_isPlace 1 = .ok (.iload_n 1, 1) := by decide +kernel
theorem dX7_isPlace_2 : decode cX7_isPlace 2 = .ok (.iconst 0, 1) := by decide +kernel
theorem dX7_isPlace_3 : decode cX7_isPlace 3 = .ok (.aload_n 0, 1) := by decide +kernel
theorem dX7_isPlace_4 : decode cX7_isPlace 4 = .ok (.getfield 7, 3) := by decide +kernel
theorem dX7_isPlace_7 : decode cX7_isPlace 7 = .ok (.iconst 1, 1) := by decide +kernel
theorem dX7_isPlace_8 : decode cX7_isPlace 8 = .ok (.isub, 1) := by decide +kernel
theorem dX7_isPlace_9 : decode cX7_isPlace 9 = .ok (.invokevirtual 215, 3) := by decide +kernel
theorem dX7_isPlace_12 : decode cX7_isPlace 12 = .ok (.ireturn, 1) := by decide +kernel
def fX7_isPlace (sh : SH) (I : IH) (this : Nat) (v1 : Int32) : Option (Int32) :=
  (gI sh I 7 this 0).bind fun x1 =>
  some (fX7_in v1 0 (x1 - 1))
set_option maxHeartbeats 4000000 in
set_option maxRecDepth 20000 in
theorem jbX7_isPlace_0 (G : GT) {X : XT} {sh : SH} {I : IH} {L : LH} {n : Nat} {r : Int32}  {this : Nat}  {v1 : Int32} (F : MF G X RX7 cX7_isPlace 2 1 (some .boolean) "isPlace") (hth : isO sh 7 this) (h : fX7_isPlace sh I this v1 = some r) : J G X (QE G X (some (.int r)) sh I L n) 2 sh I L n 0 0 0 [(0, .ref this), (1, .int v1)] [] := by
  unfold fX7_isPlace at h
  refine j_aload_n (pc := 0) (k0 := 0) F 0 rfl dX7_isPlace_0 ?_
  refine j_iload_n (pc := 1) (k0 := 1) F 1 rfl dX7_isPlace_1 ?_
  refine j_iconst (pc := 2) F 0 dX7_isPlace_2 (by decide) ?_
  refine j_aload_n (pc := 3) (k0 := 0) F 0 rfl dX7_isPlace_3 ?_
  obtain ⟨x1, hx1, h⟩ := ob h
  refine j_getI (pc := 4) F flX7_7 hx1 dX7_isPlace_4 ?_
  refine j_iconst (pc := 7) F 1 dX7_isPlace_7 (by decide) ?_
  refine j_isub (pc := 8) F dX7_isPlace_8 ?_
  refine j_callV1 (pc := 9) (ci := 7) (As := [.int v1, .int 0, .int (x1 - 1)]) (st := []) (e1 := 0) (es1 := 0) F clX7_215 cwX7_in rfl hth (ctX7_in G) rfl rfl rfl rfl rfl rfl dX7_isPlace_9 ?_
  have g1 := Option.some.inj h
  subst g1
  exact j_zret (pc := 12) F (zbX7_in) dX7_isPlace_12
theorem ctX7_isPlace (G : GT) {sh : SH} {I : IH} {L : LH} {n : Nat} {this : Nat} {v1 : Int32} {r : Int32}  (hth : isO sh 7 this) (h : fX7_isPlace sh I this v1 = some r) : Ct G yX7_isPlace cX7_isPlace 2 (some .boolean) 1 [.ref this, .int v1] sh I L n (some (.int r)) sh I L n 0 0 := by
  refine ct_of (y := yX7_isPlace) (by decide +kernel) rfl (fun X F => ?_)
  exact jbX7_isPlace_0 G F hth h
theorem dX7_isGate_0 : decode cX7_isGate 0 = .ok (.aload_n 0, 1) := by decide +kernel
theorem dX7_isGate_1 : decode cX7_isGate 1 = .ok (.iload_n 1, 1) := by decide +kernel
theorem dX7_isGate_2 : decode cX7_isGate 2 = .ok (.iconst 0, 1) := by decide +kernel
theorem dX7_isGate_3 : decode cX7_isGate 3 = .ok (.iconst 4, 1) := by decide +kernel
theorem dX7_isGate_4 : decode cX7_isGate 4 = .ok (.invokevirtual 215, 3) := by decide +kernel
theorem dX7_isGate_7 : decode cX7_isGate 7 = .ok (.ireturn, 1) := by decide +kernel
def fX7_isGate (v1 : Int32) : Int32 :=
  (fX7_in v1 0 4)
set_option maxHeartbeats 4000000 in
set_option maxRecDepth 20000 in
theorem jbX7_isGate_0 (G : GT) {X : XT} {sh : SH} {I : IH} {L : LH} {n : Nat} {r : Int32}  {this : Nat}  {v1 : Int32} (F : MF G X RX7 cX7_isGate 2 1 (some .boolean) "isGate") (hth : isO sh 7 this) (h : fX7_isGate v1 = r) : J G X (QE G X (some (.int r)) sh I L n) 2 sh I L n 0 0 0 [(0, .ref this), (1, .int v1)] [] := by
  unfold fX7_isGate at h
  refine j_aload_n (pc := 0) (k0 := 0) F 0 rfl dX7_isGate_0 ?_
  refine j_iload_n (pc := 1) (k0 := 1) F 1 rfl dX7_isGate_1 ?_
  refine j_iconst (pc := 2) F 0 dX7_isGate_2 (by decide) ?_
  refine j_iconst (pc := 3) F 4 dX7_isGate_3 (by decide) ?_
  refine j_callV1 (pc := 4) (ci := 7) (As := [.int v1, .int 0, .int 4]) (st := []) (e1 := 0) (es1 := 0) F clX7_215 cwX7_in rfl hth (ctX7_in G) rfl rfl rfl rfl rfl rfl dX7_isGate_4 ?_
  subst h
  exact j_zret (pc := 7) F (zbX7_in) dX7_isGate_7
theorem ctX7_isGate (G : GT) {sh : SH} {I : IH} {L : LH} {n : Nat} {this : Nat} {v1 : Int32} (hth : isO sh 7 this) : Ct G yX7_isGate cX7_isGate 2 (some .boolean) 1 [.ref this, .int v1] sh I L n (some (.int (fX7_isGate v1))) sh I L n 0 0 := by
  refine ct_of (y := yX7_isGate) (by decide +kernel) rfl (fun X F => ?_)
  exact jbX7_isGate_0 G F hth rfl
theorem zbX7_isGate {v1 : Int32} : fX7_isGate v1 = 0 ∨ fX7_isGate v1 = 1 := by
  unfold fX7_isGate
  repeat' split
  all_goals first | exact Or.inl rfl | exact Or.inr rfl | exact zbX7_in
theorem dX7_isHour_0 : decode cX7_isHour 0 = .ok (.aload_n 0, 1) := by decide +kernel
theorem dX7_isHour_1 : decode cX7_isHour 1 = .ok (.iload_n 1, 1) := by decide +kernel
theorem dX7_isHour_2 : decode cX7_isHour 2 = .ok (.iconst 0, 1) := by decide +kernel
theorem dX7_isHour_3 : decode cX7_isHour 3 = .ok (.bipush 47, 2) := by decide +kernel
theorem dX7_isHour_5 : decode cX7_isHour 5 = .ok (.invokevirtual 215, 3) := by decide +kernel
theorem dX7_isHour_8 : decode cX7_isHour 8 = .ok (.ireturn, 1) := by decide +kernel
def fX7_isHour (v1 : Int32) : Int32 :=
  (fX7_in v1 0 47)
set_option maxHeartbeats 4000000 in
set_option maxRecDepth 20000 in
theorem jbX7_isHour_0 (G : GT) {X : XT} {sh : SH} {I : IH} {L : LH} {n : Nat} {r : Int32}  {this : Nat}  {v1 : Int32} (F : MF G X RX7 cX7_isHour 2 1 (some .boolean) "isHour") (hth : isO sh 7 this) (h : fX7_isHour v1 = r) : J G X (QE G X (some (.int r)) sh I L n) 2 sh I L n 0 0 0 [(0, .ref this), (1, .int v1)] [] := by
  unfold fX7_isHour at h
  refine j_aload_n (pc := 0) (k0 := 0) F 0 rfl dX7_isHour_0 ?_
  refine j_iload_n (pc := 1) (k0 := 1) F 1 rfl dX7_isHour_1 ?_
  refine j_iconst (pc := 2) F 0 dX7_isHour_2 (by decide) ?_
  refine j_bipush (pc := 3) F 47 dX7_isHour_3 (by decide) ?_
  refine j_callV1 (pc := 5) (ci := 7) (As := [.int v1, .int 0, .int 47]) (st := []) (e1 := 0) (es1 := 0) F clX7_215 cwX7_in rfl hth (ctX7_in G) rfl rfl rfl rfl rfl rfl dX7_isHour_5 ?_
  subst h
  exact j_zret (pc := 8) F (zbX7_in) dX7_isHour_8
theorem ctX7_isHour (G : GT) {sh : SH} {I : IH} {L : LH} {n : Nat} {this : Nat} {v1 : Int32} (hth : isO sh 7 this) : Ct G yX7_isHour cX7_isHour 2 (some .boolean) 1 [.ref this, .int v1] sh I L n (some (.int (fX7_isHour v1))) sh I L n 0 0 := by
  refine ct_of (y := yX7_isHour) (by decide +kernel) rfl (fun X F => ?_)
  exact jbX7_isHour_0 G F hth rfl
theorem zbX7_isHour {v1 : Int32} : fX7_isHour v1 = 0 ∨ fX7_isHour v1 = 1 := by
  unfold fX7_isHour
  repeat' split
  all_goals first | exact Or.inl rfl | exact Or.inr rfl | exact zbX7_in
theorem dX7_places_0 : decode cX7_places 0 = .ok (.aload_n 0, 1) := by decide +kernel
theorem dX7_places_1 : decode cX7_places 1 = .ok (.iload_n 1, 1) := by decide +kernel
theorem dX7_places_2 : decode cX7_places 2 = .ok (.iconst 1, 1) := by decide +kernel
theorem dX7_places_3 : decode cX7_places 3 = .ok (.iconst 5, 1) := by decide +kernel
theorem dX7_places_4 : decode cX7_places 4 = .ok (.invokevirtual 215, 3) := by decide +kernel
theorem dX7_places_7 : decode cX7_places 7 = .ok (.ifCond .ne 6, 3) := by decide +kernel
theorem dX7_places_10 : decode cX7_places 10 = .ok (.bipush (-2), 2) := by decide +kernel
theorem dX7_places_12 : decode cX7_places 12 = .ok (.ireturn, 1) := by decide +kernel
theorem dX7_places_13 : decode cX7_places 13 = .ok (.aload_n 0, 1) := by decide +kernel
theorem dX7_places_14 : decode cX7_places 14 = .ok (.getfield 7, 3) := by decide +kernel
theorem dX7_places_17 : decode cX7_places 17 = .ok (.istore_n 2, 1) := by decide +kernel
theorem dX7_places_18 : decode cX7_places 18 = .ok (.aload_n 0, 1) := by decide +kernel
theorem dX7_places_19 : decode cX7_places 19 = .ok (.iload_n 1, 1) := by decide +kernel
theorem dX7_places_20 : decode cX7_places 20 = .ok (.putfield 7, 3) := by decide +kernel
theorem dX7_places_23 : decode cX7_places 23 = .ok (.iload_n 2, 1) := by decide +kernel
theorem dX7_places_24 : decode cX7_places 24 = .ok (.ireturn, 1) := by decide +kernel
def fX7_places (sh : SH) (this : Nat) (v1 : Int32) (I : IH) : Option (Int32 × IH) :=
  if (fX7_in v1 1 5) = 0 then (
    some ((-2), I)) else
  (gI sh I 7 this 0).bind fun x1 =>
  (pI sh I 7 this 0 v1).bind fun i2 =>
  some (x1, i2)
set_option maxHeartbeats 4000000 in
set_option maxRecDepth 20000 in
theorem jbX7_places_0 (G : GT) {X : XT} {sh : SH} {L : LH} {n : Nat} {r : Int32} {I' : IH}  {this : Nat}  {v1 : Int32} {I : IH} (F : MF G X RX7 cX7_places 3 1 (some .int) "places") (hth : isO sh 7 this) (h : fX7_places sh this v1 I = some (r, I')) : J G X (QE G X (some (.int r)) sh I' L n) 3 sh I L n 0 0 0 [(0, .ref this), (1, .int v1)] [] := by
  unfold fX7_places at h
  refine j_aload_n (pc := 0) (k0 := 0) F 0 rfl dX7_places_0 ?_
  refine j_iload_n (pc := 1) (k0 := 1) F 1 rfl dX7_places_1 ?_
  refine j_iconst (pc := 2) F 1 dX7_places_2 (by decide) ?_
  refine j_iconst (pc := 3) F 5 dX7_places_3 (by decide) ?_
  refine j_callV1 (pc := 4) (ci := 7) (As := [.int v1, .int 1, .int 5]) (st := []) (e1 := 0) (es1 := 0) F clX7_215 cwX7_in rfl hth (ctX7_in G) rfl rfl rfl rfl rfl rfl dX7_places_4 ?_
  refine j_if_ne (pc := 7) F 13 dX7_places_7 rfl (fun c => ?_) (fun c => ?_)
  · have h := iz_f c h
    refine j_aload_n (pc := 13) (k0 := 0) F 0 rfl dX7_places_13 ?_
    obtain ⟨x1, hx1, h⟩ := ob h
    refine j_getI (pc := 14) F flX7_7 hx1 dX7_places_14 ?_
    refine j_istore_n (pc := 17) (k1 := 2) (ls' := [(2, .int x1), (0, .ref this), (1, .int v1)]) F rfl rfl rfl dX7_places_17 ?_
    refine j_aload_n (pc := 18) (k0 := 0) F 1 rfl dX7_places_18 ?_
    refine j_iload_n (pc := 19) (k0 := 1) F 2 rfl dX7_places_19 ?_
    obtain ⟨i2, hi2, h⟩ := ob h
    refine j_putI (pc := 20) F flX7_7 fp7_0 (fun z => by cases z) hi2 dX7_places_20 ?_
    refine j_iload_n (pc := 23) (k0 := 2) F 0 rfl dX7_places_23 ?_
    have g1 := Option.some.inj h
    obtain ⟨q3, g2⟩ := Prod.mk.inj g1
    subst q3
    subst g2
    exact j_iret (pc := 24) F dX7_places_24
  · have h := iz_t c h
    refine j_bipush (pc := 10) F (-2) dX7_places_10 (by decide) ?_
    have g1 := Option.some.inj h
    obtain ⟨q3, g2⟩ := Prod.mk.inj g1
    subst q3
    subst g2
    exact j_iret (pc := 12) F dX7_places_12
theorem ctX7_places (G : GT) {sh : SH} {I : IH} {L : LH} {n : Nat} {this : Nat} {v1 : Int32} {r : Int32} {I' : IH}  (hth : isO sh 7 this) (h : fX7_places sh this v1 I = some (r, I')) : Ct G yX7_places cX7_places 3 (some .int) 1 [.ref this, .int v1] sh I L n (some (.int r)) sh I' L n 0 0 := by
  refine ct_of (y := yX7_places) (by decide +kernel) rfl (fun X F => ?_)
  exact jbX7_places_0 G F hth h
theorem dX7_sky_0 : decode cX7_sky 0 = .ok (.aload_n 0, 1) := by decide +kernel
theorem dX7_sky_1 : decode cX7_sky 1 = .ok (.iload_n 1, 1) := by decide +kernel
theorem dX7_sky_2 : decode cX7_sky 2 = .ok (.iconst 0, 1) := by decide +kernel
theorem dX7_sky_3 : decode cX7_sky 3 = .ok (.iconst 1, 1) := by decide +kernel
theorem dX7_sky_4 : decode cX7_sky 4 = .ok (.invokevirtual 215, 3) := by decide +kernel
theorem dX7_sky_7 : decode cX7_sky 7 = .ok (.ifCond .ne 5, 3) := by decide +kernel
theorem dX7_sky_10 : decode cX7_sky 10 = .ok (.iconst (-1), 1) := by decide +kernel
theorem dX7_sky_11 : decode cX7_sky 11 = .ok (.ireturn, 1) := by decide +kernel
theorem dX7_sky_12 : decode cX7_sky 12 = .ok (.aload_n 0, 1) := by decide +kernel
theorem dX7_sky_13 : decode cX7_sky 13 = .ok (.iload_n 2, 1) := by decide +kernel
theorem dX7_sky_14 : decode cX7_sky 14 = .ok (.iconst 0, 1) := by decide +kernel
theorem dX7_sky_15 : decode cX7_sky 15 = .ok (.iconst 2, 1) := by decide +kernel
theorem dX7_sky_16 : decode cX7_sky 16 = .ok (.invokevirtual 215, 3) := by decide +kernel
theorem dX7_sky_19 : decode cX7_sky 19 = .ok (.ifCond .ne 6, 3) := by decide +kernel
theorem dX7_sky_22 : decode cX7_sky 22 = .ok (.bipush (-2), 2) := by decide +kernel
theorem dX7_sky_24 : decode cX7_sky 24 = .ok (.ireturn, 1) := by decide +kernel
theorem dX7_sky_25 : decode cX7_sky 25 = .ok (.aload_n 0, 1) := by decide +kernel
theorem dX7_sky_26 : decode cX7_sky 26 = .ok (.getfield 19, 3) := by decide +kernel
theorem dX7_sky_29 : decode cX7_sky 29 = .ok (.iload_n 1, 1) := by decide +kernel
theorem dX7_sky_30 : decode cX7_sky 30 = .ok (.iaload, 1) := by decide +kernel
theorem dX7_sky_31 : decode cX7_sky 31 = .ok (.istore_n 3, 1) := by decide +kernel
theorem dX7_sky_32 : decode cX7_sky 32 = .ok (.aload_n 0, 1) := by decide +kernel
theorem dX7_sky_33 : decode cX7_sky 33 = .ok (.getfield 19, 3) := by decide +kernel
theorem dX7_sky_36 : decode cX7_sky 36 = .ok (.iload_n 1, 1) := by decide +kernel
theorem dX7_sky_37 : decode cX7_sky 37 = .ok (.iload_n 2, 1) := by decide +kernel
theorem dX7_sky_38 : decode cX7_sky 38 = .ok (.iastore, 1) := by decide +kernel
theorem dX7_sky_39 : decode cX7_sky 39 = .ok (.iload_n 3, 1) := by decide +kernel
theorem dX7_sky_40 : decode cX7_sky 40 = .ok (.ireturn, 1) := by decide +kernel
def fX7_sky (sh : SH) (this : Nat) (v1 : Int32) (v2 : Int32) (I : IH) : Option (Int32 × IH) :=
  if (fX7_in v1 0 1) = 0 then (
    some ((-1), I)) else
  if (fX7_in v2 0 2) = 0 then (
    some ((-2), I)) else
  (gR sh 7 this 3).bind fun x1 =>
  (aI sh I 0 x1 v1).bind fun x2 =>
  (gR sh 7 this 3).bind fun x3 =>
  (sI sh I x3 v1 v2).bind fun i4 =>
  some (x2, i4)
set_option maxHeartbeats 4000000 in
set_option maxRecDepth 20000 in
theorem jbX7_sky_0 (G : GT) {X : XT} {sh : SH} {L : LH} {n : Nat} {r : Int32} {I' : IH}  {this : Nat}  {v1 : Int32} {v2 : Int32} {I : IH} (F : MF G X RX7 cX7_sky 4 1 (some .int) "sky") (hth : isO sh 7 this) (h : fX7_sky sh this v1 v2 I = some (r, I')) : J G X (QE G X (some (.int r)) sh I' L n) 4 sh I L n 0 0 0 [(0, .ref this), (1, .int v1), (2, .int v2)] [] := by
  unfold fX7_sky at h
  refine j_aload_n (pc := 0) (k0 := 0) F 0 rfl dX7_sky_0 ?_
  refine j_iload_n (pc := 1) (k0 := 1) F 1 rfl dX7_sky_1 ?_
  refine j_iconst (pc := 2) F 0 dX7_sky_2 (by decide) ?_
  refine j_iconst (pc := 3) F 1 dX7_sky_3 (by decide) ?_
  refine j_callV1 (pc := 4) (ci := 7) (As := [.int v1, .int 0, .int 1]) (st := []) (e1 := 0) (es1 := 0) F clX7_215 cwX7_in rfl hth (ctX7_in G) rfl rfl rfl rfl rfl rfl dX7_sky_4 ?_
  refine j_if_ne (pc := 7) F 12 dX7_sky_7 rfl (fun c => ?_) (fun c => ?_)
  · have h := iz_f c h
    refine j_aload_n (pc := 12) (k0 := 0) F 0 rfl dX7_sky_12 ?_
    refine j_iload_n (pc := 13) (k0 := 2) F 2 rfl dX7_sky_13 ?_
    refine j_iconst (pc := 14) F 0 dX7_sky_14 (by decide) ?_
    refine j_iconst (pc := 15) F 2 dX7_sky_15 (by decide) ?_
    refine j_callV1 (pc := 16) (ci := 7) (As := [.int v2, .int 0, .int 2]) (st := []) (e1 := 0) (es1 := 0) F clX7_215 cwX7_in rfl hth (ctX7_in G) rfl rfl rfl rfl rfl rfl dX7_sky_16 ?_
    refine j_if_ne (pc := 19) F 25 dX7_sky_19 rfl (fun c => ?_) (fun c => ?_)
    · have h := iz_f c h
      refine j_aload_n (pc := 25) (k0 := 0) F 0 rfl dX7_sky_25 ?_
      obtain ⟨x1, hx1, h⟩ := ob h
      refine j_getR (pc := 26) F flX7_19 hx1 dX7_sky_26 ?_
      refine j_iload_n (pc := 29) (k0 := 1) F 1 rfl dX7_sky_29 ?_
      obtain ⟨x2, hx2, h⟩ := ob h
      refine j_iald (pc := 30) F hx2 dX7_sky_30 ?_
      refine j_istore_n (pc := 31) (k1 := 3) (ls' := [(3, .int x2), (0, .ref this), (1, .int v1), (2, .int v2)]) F rfl rfl rfl dX7_sky_31 ?_
      refine j_aload_n (pc := 32) (k0 := 0) F 1 rfl dX7_sky_32 ?_
      obtain ⟨x3, hx3, h⟩ := ob h
      refine j_getR (pc := 33) F flX7_19 hx3 dX7_sky_33 ?_
      refine j_iload_n (pc := 36) (k0 := 1) F 2 rfl dX7_sky_36 ?_
      refine j_iload_n (pc := 37) (k0 := 2) F 3 rfl dX7_sky_37 ?_
      obtain ⟨i4, hi4, h⟩ := ob h
      refine j_iast (pc := 38) F hi4 dX7_sky_38 ?_
      refine j_iload_n (pc := 39) (k0 := 3) F 0 rfl dX7_sky_39 ?_
      have g1 := Option.some.inj h
      obtain ⟨q3, g2⟩ := Prod.mk.inj g1
      subst q3
      subst g2
      exact j_iret (pc := 40) F dX7_sky_40
    · have h := iz_t c h
      refine j_bipush (pc := 22) F (-2) dX7_sky_22 (by decide) ?_
      have g1 := Option.some.inj h
      obtain ⟨q3, g2⟩ := Prod.mk.inj g1
      subst q3
      subst g2
      exact j_iret (pc := 24) F dX7_sky_24
  · have h := iz_t c h
    refine j_iconst (pc := 10) F (-1) dX7_sky_10 (by decide) ?_
    have g1 := Option.some.inj h
    obtain ⟨q3, g2⟩ := Prod.mk.inj g1
    subst q3
    subst g2
    exact j_iret (pc := 11) F dX7_sky_11
theorem ctX7_sky (G : GT) {sh : SH} {I : IH} {L : LH} {n : Nat} {this : Nat} {v1 : Int32} {v2 : Int32} {r : Int32} {I' : IH}  (hth : isO sh 7 this) (h : fX7_sky sh this v1 v2 I = some (r, I')) : Ct G yX7_sky cX7_sky 4 (some .int) 1 [.ref this, .int v1, .int v2] sh I L n (some (.int r)) sh I' L n 0 0 := by
  refine ct_of (y := yX7_sky) (by decide +kernel) rfl (fun X F => ?_)
  exact jbX7_sky_0 G F hth h
theorem dX7_gate_0 : decode cX7_gate 0 = .ok (.aload_n 0, 1) := by decide +kernel
theorem dX7_gate_1 : decode cX7_gate 1 = .ok (.iload_n 1, 1) := by decide +kernel
theorem dX7_gate_2 : decode cX7_gate 2 = .ok (.invokevirtual 219, 3) := by decide +kernel
theorem dX7_gate_5 : decode cX7_gate 5 = .ok (.ifCond .eq 14, 3) := by decide +kernel
theorem dX7_gate_8 : decode cX7_gate 8 = .ok (.aload_n 0, 1) := by decide +kernel
theorem dX7_gate_9 : decode cX7_gate 9 = .ok (.iload_n 2, 1) := by decide +kernel
theorem dX7_gate_10 : decode cX7_gate 10 = .ok (.iconst 0, 1) := by decide +kernel
theorem dX7_gate_11 : decode cX7_gate 11 = .ok (.bipush 6, 2) := by decide +kernel
theorem dX7_gate_13 : decode cX7_gate 13 = .ok (.invokevirtual 215, 3) := by decide +kernel
theorem dX7_gate_16 : decode cX7_gate 16 = .ok (.ifCond .ne 5, 3) := by decide +kernel
theorem dX7_gate_19 : decode cX7_gate 19 = .ok (.iconst (-1), 1) := by decide +kernel
theorem dX7_gate_20 : decode cX7_gate 20 = .ok (.ireturn, 1) := by decide +kernel
theorem dX7_gate_21 : decode cX7_gate 21 = .ok (.aload_n 0, 1) := by decide +kernel
theorem dX7_gate_22 : decode cX7_gate 22 = .ok (.iload_n 3, 1) := by decide +kernel
theorem dX7_gate_23 : decode cX7_gate 23 = .ok (.iconst 0, 1) := by decide +kernel
theorem dX7_gate_24 : decode cX7_gate 24 = .ok (.bipush 10, 2) := by decide +kernel
theorem dX7_gate_26 : decode cX7_gate 26 = .ok (.invokevirtual 215, 3) := by decide +kernel
theorem dX7_gate_29 : decode cX7_gate 29 = .ok (.ifCond .eq 15, 3) := by decide +kernel
theorem dX7_gate_32 : decode cX7_gate 32 = .ok (.aload_n 0, 1) := by decide +kernel
theorem dX7_gate_33 : decode cX7_gate 33 = .ok (.iload 4, 2) := by decide +kernel
theorem dX7_gate_35 : decode cX7_gate 35 = .ok (.iconst 0, 1) := by decide +kernel
theorem dX7_gate_36 : decode cX7_gate 36 = .ok (.ldc 223, 2) := by decide +kernel
theorem dX7_gate_38 : decode cX7_gate 38 = .ok (.invokevirtual 215, 3) := by decide +kernel
theorem dX7_gate_41 : decode cX7_gate 41 = .ok (.ifCond .ne 6, 3) := by decide +kernel
theorem dX7_gate_44 : decode cX7_gate 44 = .ok (.bipush (-2), 2) := by decide +kernel
theorem dX7_gate_46 : decode cX7_gate 46 = .ok (.ireturn, 1) := by decide +kernel
theorem dX7_gate_47 : decode cX7_gate 47 = .ok (.aload_n 0, 1) := by decide +kernel
theorem dX7_gate_48 : decode cX7_gate 48 = .ok (.getfield 23, 3) := by decide +kernel
theorem dX7_gate_51 : decode cX7_gate 51 = .ok (.iload_n 1, 1) := by decide +kernel
theorem dX7_gate_52 : decode cX7_gate 52 = .ok (.iaload, 1) := by decide +kernel
theorem dX7_gate_53 : decode cX7_gate 53 = .ok (.istore 5, 2) := by decide +kernel
theorem dX7_gate_55 : decode cX7_gate 55 = .ok (.aload_n 0, 1) := by decide +kernel
theorem dX7_gate_56 : decode cX7_gate 56 = .ok (.getfield 23, 3) := by decide +kernel
theorem dX7_gate_59 : decode cX7_gate 59 = .ok (.iload_n 1, 1) := by decide +kernel
theorem dX7_gate_60 : decode cX7_gate 60 = .ok (.iload_n 2, 1) := by decide +kernel
theorem dX7_gate_61 : decode cX7_gate 61 = .ok (.iastore, 1) := by decide +kernel
theorem dX7_gate_62 : decode cX7_gate 62 = .ok (.aload_n 0, 1) := by decide +kernel
theorem dX7_gate_63 : decode cX7_gate 63 = .ok (.getfield 26, 3) := by decide +kernel
theorem dX7_gate_66 : decode cX7_gate 66 = .ok (.iload_n 1, 1) := by decide +kernel
theorem dX7_gate_67 : decode cX7_gate 67 = .ok (.iload_n 3, 1) := by decide +kernel
theorem dX7_gate_68 : decode cX7_gate 68 = .ok (.iastore, 1) := by decide +kernel
theorem dX7_gate_69 : decode cX7_gate 69 = .ok (.aload_n 0, 1) := by decide +kernel
theorem dX7_gate_70 : decode cX7_gate 70 = .ok (.getfield 29, 3) := by decide +kernel
theorem dX7_gate_73 : decode cX7_gate 73 = .ok (.iload_n 1, 1) := by decide +kernel
theorem dX7_gate_74 : decode cX7_gate 74 = .ok (.iload 4, 2) := by decide +kernel
theorem dX7_gate_76 : decode cX7_gate 76 = .ok (.iastore, 1) := by decide +kernel
theorem dX7_gate_77 : decode cX7_gate 77 = .ok (.iload 5, 2) := by decide +kernel
theorem dX7_gate_79 : decode cX7_gate 79 = .ok (.ireturn, 1) := by decide +kernel
def fX7_gate (sh : SH) (this : Nat) (v1 : Int32) (v2 : Int32) (v3 : Int32) (v4 : Int32) (I : IH) : Option (Int32 × IH) :=
  if (fX7_isGate v1) = 0 then (
    some ((-1), I)) else
  if (fX7_in v2 0 6) = 0 then (
    some ((-1), I)) else
  if (fX7_in v3 0 10) = 0 then (
    some ((-2), I)) else
  if (fX7_in v4 0 16777215) = 0 then (
    some ((-2), I)) else
  (gR sh 7 this 4).bind fun x1 =>
  (aI sh I 0 x1 v1).bind fun x2 =>
  (gR sh 7 this 4).bind fun x3 =>
  (sI sh I x3 v1 v2).bind fun i4 =>
  (gR sh 7 this 5).bind fun x5 =>
  (sI sh i4 x5 v1 v3).bind fun i6 =>
  (gR sh 7 this 6).bind fun x7 =>
  (sI sh i6 x7 v1 v4).bind fun i8 =>
  some (x2, i8)
set_option maxHeartbeats 4000000 in
set_option maxRecDepth 20000 in
theorem jbX7_gate_0 (G : GT) {X : XT} {sh : SH} {L : LH} {n : Nat} {r : Int32} {I' : IH}  {this : Nat}  {v1 : Int32} {v2 : Int32} {v3 : Int32} {v4 : Int32} {I : IH} (F : MF G X RX7 cX7_gate 6 2 (some .int) "gate") (hth : isO sh 7 this) (h : fX7_gate sh this v1 v2 v3 v4 I = some (r, I')) : J G X (QE G X (some (.int r)) sh I' L n) 6 sh I L n 0 0 0 [(0, .ref this), (1, .int v1), (2, .int v2), (3, .int v3), (4, .int v4)] [] := by
  unfold fX7_gate at h
  refine j_aload_n (pc := 0) (k0 := 0) F 0 rfl dX7_gate_0 ?_
  refine j_iload_n (pc := 1) (k0 := 1) F 1 rfl dX7_gate_1 ?_
  refine j_callV1 (pc := 2) (ci := 7) (As := [.int v1]) (st := []) (e1 := 0) (es1 := 0) F clX7_219 cwX7_isGate rfl hth (ctX7_isGate G hth) rfl rfl rfl rfl rfl rfl dX7_gate_2 ?_
  refine j_if_eq (pc := 5) F 19 dX7_gate_5 rfl (fun c => ?_) (fun c => ?_)
  · have h := iz_t c h
    refine j_iconst (pc := 19) F (-1) dX7_gate_19 (by decide) ?_
    have g1 := Option.some.inj h
    obtain ⟨q3, g2⟩ := Prod.mk.inj g1
    subst q3
    subst g2
    exact j_iret (pc := 20) F dX7_gate_20
  · have h := iz_f c h
    refine j_aload_n (pc := 8) (k0 := 0) F 0 rfl dX7_gate_8 ?_
    refine j_iload_n (pc := 9) (k0 := 2) F 2 rfl dX7_gate_9 ?_
    refine j_iconst (pc := 10) F 0 dX7_gate_10 (by decide) ?_
    refine j_bipush (pc := 11) F 6 dX7_gate_11 (by decide) ?_
    refine j_callV1 (pc := 13) (ci := 7) (As := [.int v2, .int 0, .int 6]) (st := []) (e1 := 0) (es1 := 0) F clX7_215 cwX7_in rfl hth (ctX7_in G) rfl rfl rfl rfl rfl rfl dX7_gate_13 ?_
    refine j_if_ne (pc := 16) F 21 dX7_gate_16 rfl (fun c => ?_) (fun c => ?_)
    · have h := iz_f c h
      refine j_aload_n (pc := 21) (k0 := 0) F 0 rfl dX7_gate_21 ?_
      refine j_iload_n (pc := 22) (k0 := 3) F 3 rfl dX7_gate_22 ?_
      refine j_iconst (pc := 23) F 0 dX7_gate_23 (by decide) ?_
      refine j_bipush (pc := 24) F 10 dX7_gate_24 (by decide) ?_
      refine j_callV1 (pc := 26) (ci := 7) (As := [.int v3, .int 0, .int 10]) (st := []) (e1 := 0) (es1 := 0) F clX7_215 cwX7_in rfl hth (ctX7_in G) rfl rfl rfl rfl rfl rfl dX7_gate_26 ?_
      refine j_if_eq (pc := 29) F 44 dX7_gate_29 rfl (fun c => ?_) (fun c => ?_)
      · have h := iz_t c h
        refine j_bipush (pc := 44) F (-2) dX7_gate_44 (by decide) ?_
        have g1 := Option.some.inj h
        obtain ⟨q3, g2⟩ := Prod.mk.inj g1
        subst q3
        subst g2
        exact j_iret (pc := 46) F dX7_gate_46
      · have h := iz_f c h
        refine j_aload_n (pc := 32) (k0 := 0) F 0 rfl dX7_gate_32 ?_
        refine j_iload (pc := 33) (k0 := 4) F 4 rfl dX7_gate_33 ?_
        refine j_iconst (pc := 35) F 0 dX7_gate_35 (by decide) ?_
        refine j_ldc (pc := 36) (v := 16777215) F (good_of 975 (by decide +kernel) (by decide +kernel)) dX7_gate_36 ?_
        refine j_callV1 (pc := 38) (ci := 7) (As := [.int v4, .int 0, .int 16777215]) (st := []) (e1 := 0) (es1 := 0) F clX7_215 cwX7_in rfl hth (ctX7_in G) rfl rfl rfl rfl rfl rfl dX7_gate_38 ?_
        refine j_if_ne (pc := 41) F 47 dX7_gate_41 rfl (fun c => ?_) (fun c => ?_)
        · have h := iz_f c h
          refine j_aload_n (pc := 47) (k0 := 0) F 0 rfl dX7_gate_47 ?_
          obtain ⟨x1, hx1, h⟩ := ob h
          refine j_getR (pc := 48) F flX7_23 hx1 dX7_gate_48 ?_
          refine j_iload_n (pc := 51) (k0 := 1) F 1 rfl dX7_gate_51 ?_
          obtain ⟨x2, hx2, h⟩ := ob h
          refine j_iald (pc := 52) F hx2 dX7_gate_52 ?_
          refine j_istore (pc := 53) (k1 := 5) (ls' := [(5, .int x2), (0, .ref this), (1, .int v1), (2, .int v2), (3, .int v3), (4, .int v4)]) F rfl rfl dX7_gate_53 ?_
          refine j_aload_n (pc := 55) (k0 := 0) F 1 rfl dX7_gate_55 ?_
          obtain ⟨x3, hx3, h⟩ := ob h
          refine j_getR (pc := 56) F flX7_23 hx3 dX7_gate_56 ?_
          refine j_iload_n (pc := 59) (k0 := 1) F 2 rfl dX7_gate_59 ?_
          refine j_iload_n (pc := 60) (k0 := 2) F 3 rfl dX7_gate_60 ?_
          obtain ⟨i4, hi4, h⟩ := ob h
          refine j_iast (pc := 61) F hi4 dX7_gate_61 ?_
          refine j_aload_n (pc := 62) (k0 := 0) F 1 rfl dX7_gate_62 ?_
          obtain ⟨x5, hx5, h⟩ := ob h
          refine j_getR (pc := 63) F flX7_26 hx5 dX7_gate_63 ?_
          refine j_iload_n (pc := 66) (k0 := 1) F 2 rfl dX7_gate_66 ?_
          refine j_iload_n (pc := 67) (k0 := 3) F 4 rfl dX7_gate_67 ?_
          obtain ⟨i6, hi6, h⟩ := ob h
          refine j_iast (pc := 68) F hi6 dX7_gate_68 ?_
          refine j_aload_n (pc := 69) (k0 := 0) F 1 rfl dX7_gate_69 ?_
          obtain ⟨x7, hx7, h⟩ := ob h
          refine j_getR (pc := 70) F flX7_29 hx7 dX7_gate_70 ?_
          refine j_iload_n (pc := 73) (k0 := 1) F 2 rfl dX7_gate_73 ?_
          refine j_iload (pc := 74) (k0 := 4) F 5 rfl dX7_gate_74 ?_
          obtain ⟨i8, hi8, h⟩ := ob h
          refine j_iast (pc := 76) F hi8 dX7_gate_76 ?_
          refine j_iload (pc := 77) (k0 := 5) F 0 rfl dX7_gate_77 ?_
          have g1 := Option.some.inj h
          obtain ⟨q3, g2⟩ := Prod.mk.inj g1
          subst q3
          subst g2
          exact j_iret (pc := 79) F dX7_gate_79
        · have h := iz_t c h
          refine j_bipush (pc := 44) F (-2) dX7_gate_44 (by decide) ?_
          have g1 := Option.some.inj h
          obtain ⟨q3, g2⟩ := Prod.mk.inj g1
          subst q3
          subst g2
          exact j_iret (pc := 46) F dX7_gate_46
    · have h := iz_t c h
      refine j_iconst (pc := 19) F (-1) dX7_gate_19 (by decide) ?_
      have g1 := Option.some.inj h
      obtain ⟨q3, g2⟩ := Prod.mk.inj g1
      subst q3
      subst g2
      exact j_iret (pc := 20) F dX7_gate_20
theorem ctX7_gate (G : GT) {sh : SH} {I : IH} {L : LH} {n : Nat} {this : Nat} {v1 : Int32} {v2 : Int32} {v3 : Int32} {v4 : Int32} {r : Int32} {I' : IH}  (hth : isO sh 7 this) (h : fX7_gate sh this v1 v2 v3 v4 I = some (r, I')) : Ct G yX7_gate cX7_gate 6 (some .int) 2 [.ref this, .int v1, .int v2, .int v3, .int v4] sh I L n (some (.int r)) sh I' L n 0 0 := by
  refine ct_of (y := yX7_gate) (by decide +kernel) rfl (fun X F => ?_)
  exact jbX7_gate_0 G F hth h
theorem dX7_of_0 : decode cX7_of 0 = .ok (.aload_n 0, 1) := by decide +kernel
theorem dX7_of_1 : decode cX7_of 1 = .ok (.iload_n 1, 1) := by decide +kernel
theorem dX7_of_2 : decode cX7_of 2 = .ok (.invokevirtual 219, 3) := by decide +kernel
theorem dX7_of_5 : decode cX7_of 5 = .ok (.ifCond .ne 5, 3) := by decide +kernel
theorem dX7_of_8 : decode cX7_of 8 = .ok (.iconst (-1), 1) := by decide +kernel
theorem dX7_of_9 : decode cX7_of 9 = .ok (.ireturn, 1) := by decide +kernel
theorem dX7_of_10 : decode cX7_of 10 = .ok (.iload_n 2, 1) := by decide +kernel
theorem dX7_of_11 : decode cX7_of 11 = .ok (.tableswitch 46 0 2 #[25, 32, 39], 25) := by decide +kernel
theorem dX7_of_36 : decode cX7_of 36 = .ok (.aload_n 0, 1) := by decide +kernel
theorem dX7_of_37 : decode cX7_of 37 = .ok (.getfield 23, 3) := by decide +kernel
theorem dX7_of_40 : decode cX7_of 40 = .ok (.iload_n 1, 1) := by decide +kernel
theorem dX7_of_41 : decode cX7_of 41 = .ok (.iaload, 1) := by decide +kernel
theorem dX7_of_42 : decode cX7_of 42 = .ok (.ireturn, 1) := by decide +kernel
theorem dX7_of_43 : decode cX7_of 43 = .ok (.aload_n 0, 1) := by decide +kernel
theorem dX7_of_44 : decode cX7_of 44 = .ok (.getfield 26, 3) := by decide +kernel
theorem dX7_of_47 : decode cX7_of 47 = .ok (.iload_n 1, 1) := by decide +kernel
theorem dX7_of_48 : decode cX7_of 48 = .ok (.iaload, 1) := by decide +kernel
theorem dX7_of_49 : decode cX7_of 49 = .ok (.ireturn, 1) := by decide +kernel
theorem dX7_of_50 : decode cX7_of 50 = .ok (.aload_n 0, 1) := by decide +kernel
theorem dX7_of_51 : decode cX7_of 51 = .ok (.getfield 29, 3) := by decide +kernel
theorem dX7_of_54 : decode cX7_of 54 = .ok (.iload_n 1, 1) := by decide +kernel
theorem dX7_of_55 : decode cX7_of 55 = .ok (.iaload, 1) := by decide +kernel
theorem dX7_of_56 : decode cX7_of 56 = .ok (.ireturn, 1) := by decide +kernel
theorem dX7_of_57 : decode cX7_of 57 = .ok (.iconst (-1), 1) := by decide +kernel
theorem dX7_of_58 : decode cX7_of 58 = .ok (.ireturn, 1) := by decide +kernel
def fX7_of (sh : SH) (I : IH) (this : Nat) (v1 : Int32) (v2 : Int32) : Option (Int32) :=
  if (fX7_isGate v1) = 0 then (
    some (-1)) else
  if v2 = 0 then (
    (gR sh 7 this 4).bind fun x1 =>
    (aI sh I 0 x1 v1).bind fun x2 =>
    some x2) else
  if v2 = 1 then (
    (gR sh 7 this 5).bind fun x3 =>
    (aI sh I 0 x3 v1).bind fun x4 =>
    some x4) else
  if v2 = 2 then (
    (gR sh 7 this 6).bind fun x5 =>
    (aI sh I 0 x5 v1).bind fun x6 =>
    some x6) else
  some (-1)
set_option maxHeartbeats 4000000 in
set_option maxRecDepth 20000 in
theorem jbX7_of_0 (G : GT) {X : XT} {sh : SH} {I : IH} {L : LH} {n : Nat} {r : Int32}  {this : Nat}  {v1 : Int32} {v2 : Int32} (F : MF G X RX7 cX7_of 3 2 (some .int) "of") (hth : isO sh 7 this) (h : fX7_of sh I this v1 v2 = some r) : J G X (QE G X (some (.int r)) sh I L n) 3 sh I L n 0 0 0 [(0, .ref this), (1, .int v1), (2, .int v2)] [] := by
  unfold fX7_of at h
  refine j_aload_n (pc := 0) (k0 := 0) F 0 rfl dX7_of_0 ?_
  refine j_iload_n (pc := 1) (k0 := 1) F 1 rfl dX7_of_1 ?_
  refine j_callV1 (pc := 2) (ci := 7) (As := [.int v1]) (st := []) (e1 := 0) (es1 := 0) F clX7_219 cwX7_isGate rfl hth (ctX7_isGate G hth) rfl rfl rfl rfl rfl rfl dX7_of_2 ?_
  refine j_if_ne (pc := 5) F 10 dX7_of_5 rfl (fun c => ?_) (fun c => ?_)
  · have h := iz_f c h
    refine j_iload_n (pc := 10) (k0 := 2) F 2 rfl dX7_of_10 ?_
    by_cases c1 : v2 = 0
    · have h := iz_t c1 h
      refine j_tabIn (pc := 11) (k0 := 0) F 36 c1 dX7_of_11 (by decide) rfl rfl ?_
      refine j_aload_n (pc := 36) (k0 := 0) F 0 rfl dX7_of_36 ?_
      obtain ⟨x1, hx1, h⟩ := ob h
      refine j_getR (pc := 37) F flX7_23 hx1 dX7_of_37 ?_
      refine j_iload_n (pc := 40) (k0 := 1) F 1 rfl dX7_of_40 ?_
      obtain ⟨x2, hx2, h⟩ := ob h
      refine j_iald (pc := 41) F hx2 dX7_of_41 ?_
      have g1 := Option.some.inj h
      subst g1
      exact j_iret (pc := 42) F dX7_of_42
    have h := iz_f c1 h
    by_cases c2 : v2 = 1
    · have h := iz_t c2 h
      refine j_tabIn (pc := 11) (k0 := 1) F 43 c2 dX7_of_11 (by decide) rfl rfl ?_
      refine j_aload_n (pc := 43) (k0 := 0) F 0 rfl dX7_of_43 ?_
      obtain ⟨x3, hx3, h⟩ := ob h
      refine j_getR (pc := 44) F flX7_26 hx3 dX7_of_44 ?_
      refine j_iload_n (pc := 47) (k0 := 1) F 1 rfl dX7_of_47 ?_
      obtain ⟨x4, hx4, h⟩ := ob h
      refine j_iald (pc := 48) F hx4 dX7_of_48 ?_
      have g1 := Option.some.inj h
      subst g1
      exact j_iret (pc := 49) F dX7_of_49
    have h := iz_f c2 h
    by_cases c3 : v2 = 2
    · have h := iz_t c3 h
      refine j_tabIn (pc := 11) (k0 := 2) F 50 c3 dX7_of_11 (by decide) rfl rfl ?_
      refine j_aload_n (pc := 50) (k0 := 0) F 0 rfl dX7_of_50 ?_
      obtain ⟨x5, hx5, h⟩ := ob h
      refine j_getR (pc := 51) F flX7_29 hx5 dX7_of_51 ?_
      refine j_iload_n (pc := 54) (k0 := 1) F 1 rfl dX7_of_54 ?_
      obtain ⟨x6, hx6, h⟩ := ob h
      refine j_iald (pc := 55) F hx6 dX7_of_55 ?_
      have g1 := Option.some.inj h
      subst g1
      exact j_iret (pc := 56) F dX7_of_56
    have h := iz_f c3 h
    have tc1 := lv_neT (a := 0) c1 (by decide)
    have tc2 := lv_neT (a := 1) c2 (by decide)
    have tc3 := lv_neT (a := 2) c3 (by decide)
    refine j_tabOut (pc := 11) F 57 dX7_of_11 (by omega) rfl ?_
    refine j_iconst (pc := 57) F (-1) dX7_of_57 (by decide) ?_
    have g1 := Option.some.inj h
    subst g1
    exact j_iret (pc := 58) F dX7_of_58
  · have h := iz_t c h
    refine j_iconst (pc := 8) F (-1) dX7_of_8 (by decide) ?_
    have g1 := Option.some.inj h
    subst g1
    exact j_iret (pc := 9) F dX7_of_9
theorem ctX7_of (G : GT) {sh : SH} {I : IH} {L : LH} {n : Nat} {this : Nat} {v1 : Int32} {v2 : Int32} {r : Int32}  (hth : isO sh 7 this) (h : fX7_of sh I this v1 v2 = some r) : Ct G yX7_of cX7_of 3 (some .int) 2 [.ref this, .int v1, .int v2] sh I L n (some (.int r)) sh I L n 0 0 := by
  refine ct_of (y := yX7_of) (by decide +kernel) rfl (fun X F => ?_)
  exact jbX7_of_0 G F hth h
theorem dX7_feed_0 : decode cX7_feed 0 = .ok (.aload_n 0, 1) := by decide +kernel
theorem dX7_feed_1 : decode cX7_feed 1 = .ok (.iload_n 2, 1) := by decide +kernel
theorem dX7_feed_2 : decode cX7_feed 2 = .ok (.iconst 0, 1) := by decide +kernel
theorem dX7_feed_3 : decode cX7_feed 3 = .ok (.iconst 4, 1) := by decide +kernel
theorem dX7_feed_4 : decode cX7_feed 4 = .ok (.invokevirtual 215, 3) := by decide +kernel
theorem dX7_feed_7 : decode cX7_feed 7 = .ok (.ifCond .ne 6, 3) := by decide +kernel
theorem dX7_feed_10 : decode cX7_feed 10 = .ok (.bipush (-2), 2) := by decide +kernel
theorem dX7_feed_12 : decode cX7_feed 12 = .ok (.ireturn, 1) := by decide +kernel
theorem dX7_feed_13 : decode cX7_feed 13 = .ok (.aload_n 0, 1) := by decide +kernel
theorem dX7_feed_14 : decode cX7_feed 14 = .ok (.getfield 38, 3) := by decide +kernel
theorem dX7_feed_17 : decode cX7_feed 17 = .ok (.iload_n 2, 1) := by decide +kernel
theorem dX7_feed_18 : decode cX7_feed 18 = .ok (.iadd, 1) := by decide +kernel
theorem dX7_feed_19 : decode cX7_feed 19 = .ok (.bipush 100, 2) := by decide +kernel
theorem dX7_feed_21 : decode cX7_feed 21 = .ok (.if_icmp .le 6, 3) := by decide +kernel
theorem dX7_feed_24 : decode cX7_feed 24 = .ok (.bipush (-4), 2) := by decide +kernel
theorem dX7_feed_26 : decode cX7_feed 26 = .ok (.ireturn, 1) := by decide +kernel
theorem dX7_feed_27 : decode cX7_feed 27 = .ok (.iload_n 2, 1) := by decide +kernel
theorem dX7_feed_28 : decode cX7_feed 28 = .ok (.iconst 1, 1) := by decide +kernel
theorem dX7_feed_29 : decode cX7_feed 29 = .ok (.isub, 1) := by decide +kernel
theorem dX7_feed_30 : decode cX7_feed 30 = .ok (.istore_n 3, 1) := by decide +kernel
theorem dX7_feed_31 : decode cX7_feed 31 = .ok (.iload_n 3, 1) := by decide +kernel
theorem dX7_feed_32 : decode cX7_feed 32 = .ok (.ifCond .lt 35, 3) := by decide +kernel
theorem dX7_feed_35 : decode cX7_feed 35 = .ok (.aload_n 0, 1) := by decide +kernel
theorem dX7_feed_36 : decode cX7_feed 36 = .ok (.getfield 47, 3) := by decide +kernel
theorem dX7_feed_39 : decode cX7_feed 39 = .ok (.aload_n 0, 1) := by decide +kernel
theorem dX7_feed_40 : decode cX7_feed 40 = .ok (.getfield 38, 3) := by decide +kernel
theorem dX7_feed_43 : decode cX7_feed 43 = .ok (.iload_n 1, 1) := by decide +kernel
theorem dX7_feed_44 : decode cX7_feed 44 = .ok (.bipush 8, 2) := by decide +kernel
theorem dX7_feed_46 : decode cX7_feed 46 = .ok (.iload_n 3, 1) := by decide +kernel
theorem dX7_feed_47 : decode cX7_feed 47 = .ok (.imul, 1) := by decide +kernel
theorem dX7_feed_48 : decode cX7_feed 48 = .ok (.ishr, 1) := by decide +kernel
theorem dX7_feed_49 : decode cX7_feed 49 = .ok (.i2b, 1) := by decide +kernel
theorem dX7_feed_50 : decode cX7_feed 50 = .ok (.iastore, 1) := by decide +kernel
theorem dX7_feed_51 : decode cX7_feed 51 = .ok (.aload_n 0, 1) := by decide +kernel
theorem dX7_feed_52 : decode cX7_feed 52 = .ok (.dup, 1) := by decide +kernel
theorem dX7_feed_53 : decode cX7_feed 53 = .ok (.getfield 38, 3) := by decide +kernel
theorem dX7_feed_56 : decode cX7_feed 56 = .ok (.iconst 1, 1) := by decide +kernel
theorem dX7_feed_57 : decode cX7_feed 57 = .ok (.iadd, 1) := by decide +kernel
theorem dX7_feed_58 : decode cX7_feed 58 = .ok (.putfield 38, 3) := by decide +kernel
theorem dX7_feed_61 : decode cX7_feed 61 = .ok (.iinc 3 (-1), 3) := by decide +kernel
theorem dX7_feed_64 : decode cX7_feed 64 = .ok (.goto (-33), 3) := by decide +kernel
theorem dX7_feed_67 : decode cX7_feed 67 = .ok (.aload_n 0, 1) := by decide +kernel
theorem dX7_feed_68 : decode cX7_feed 68 = .ok (.getfield 38, 3) := by decide +kernel
theorem dX7_feed_71 : decode cX7_feed 71 = .ok (.ireturn, 1) := by decide +kernel
def fX7_feed_b31 (sh : SH) (this : Nat) : Nat → Int32 → Int32 → IH → Option (Int32 × IH)
  | 0, _, _, _ => none
  | fuel + 1, v1, v3, I =>
    if v3 < 0 then (
      (gI sh I 7 this 9).bind fun x1 =>
      some (x1, I)) else
    (gR sh 7 this 12).bind fun x2 =>
    (gI sh I 7 this 9).bind fun x3 =>
    (sI sh I x2 x3 (v1 >>> ((8 * v3) &&& 31)).toInt8.toInt32).bind fun i4 =>
    (gI sh i4 7 this 9).bind fun x5 =>
    (pI sh i4 7 this 9 (x5 + 1)).bind fun i6 =>
    fX7_feed_b31 sh this fuel v1 (v3 + (-1)) i6
def fX7_feed (sh : SH) (this : Nat) (v1 : Int32) (v2 : Int32) (I : IH) : Option (Int32 × IH) :=
  if (fX7_in v2 0 4) = 0 then (
    some ((-2), I)) else
  (gI sh I 7 this 9).bind fun x1 =>
  if (x1 + v2) ≤ 100 then (
    fX7_feed_b31 sh this 1000 v1 (v2 - 1) I) else
  some ((-4), I)
set_option maxHeartbeats 4000000 in
set_option maxRecDepth 20000 in
theorem jbX7_feed_31 (G : GT) {X : XT} {sh : SH} {L : LH} {n : Nat} {r : Int32} {I' : IH}  {this : Nat}  (F : MF G X RX7 cX7_feed 4 1 (some .int) "feed") (hth : isO sh 7 this) : ∀ (fuel : Nat) (v1 : Int32) (v3 : Int32) (I : IH), fX7_feed_b31 sh this fuel v1 v3 I = some (r, I') → J G X (QE G X (some (.int r)) sh I' L n) 4 sh I L n 0 0 31 [(0, .ref this), (1, .int v1), (3, .int v3)] []
  | 0 => by
    intros
    rename_i h
    exact absurd (show none = some _ from h) (by intro z; cases z)
  | fuel + 1 => by
    intro v1 v3 I h
    rw [fX7_feed_b31] at h
    refine j_iload_n (pc := 31) (k0 := 3) F 2 rfl dX7_feed_31 ?_
    refine j_if_lt (pc := 32) F 67 dX7_feed_32 rfl (fun c => ?_) (fun c => ?_)
    · have h := iz_t c h
      refine j_aload_n (pc := 67) (k0 := 0) F 0 rfl dX7_feed_67 ?_
      obtain ⟨x1, hx1, h⟩ := ob h
      refine j_getI (pc := 68) F flX7_38 hx1 dX7_feed_68 ?_
      have g1 := Option.some.inj h
      obtain ⟨q3, g2⟩ := Prod.mk.inj g1
      subst q3
      subst g2
      exact j_iret (pc := 71) F dX7_feed_71
    · have h := iz_f c h
      refine j_aload_n (pc := 35) (k0 := 0) F 0 rfl dX7_feed_35 ?_
      obtain ⟨x2, hx2, h⟩ := ob h
      refine j_getR (pc := 36) F flX7_47 hx2 dX7_feed_36 ?_
      refine j_aload_n (pc := 39) (k0 := 0) F 0 rfl dX7_feed_39 ?_
      obtain ⟨x3, hx3, h⟩ := ob h
      refine j_getI (pc := 40) F flX7_38 hx3 dX7_feed_40 ?_
      refine j_iload_n (pc := 43) (k0 := 1) F 1 rfl dX7_feed_43 ?_
      refine j_bipush (pc := 44) F 8 dX7_feed_44 (by decide) ?_
      refine j_iload_n (pc := 46) (k0 := 3) F 2 rfl dX7_feed_46 ?_
      refine j_imul (pc := 47) F dX7_feed_47 ?_
      refine j_ishr (pc := 48) F dX7_feed_48 ?_
      refine j_i2b (pc := 49) F dX7_feed_49 ?_
      obtain ⟨i4, hi4, h⟩ := ob h
      refine j_iast (pc := 50) F hi4 dX7_feed_50 ?_
      refine j_aload_n (pc := 51) (k0 := 0) F 0 rfl dX7_feed_51 ?_
      refine j_dup (pc := 52) F dX7_feed_52 rfl ?_
      obtain ⟨x5, hx5, h⟩ := ob h
      refine j_getI (pc := 53) F flX7_38 hx5 dX7_feed_53 ?_
      refine j_iconst (pc := 56) F 1 dX7_feed_56 (by decide) ?_
      refine j_iadd (pc := 57) F dX7_feed_57 ?_
      obtain ⟨i6, hi6, h⟩ := ob h
      refine j_putI (pc := 58) F flX7_38 fp7_9 (fun z => by cases z) hi6 dX7_feed_58 ?_
      refine j_iinc (pc := 61) (k1 := 3) (ls' := [(3, .int (v3 + (-1))), (0, .ref this), (1, .int v1)]) F (v3 + (-1)) 2 rfl (congrArg (fun z => v3 + z) (by decide)) rfl rfl dX7_feed_61 ?_
      refine j_goto (pc := 64) F 31 dX7_feed_64 rfl ?_
      refine j_sub [1, 2, 0] rfl ?_
      exact jbX7_feed_31 G F hth fuel _ _ _ h
set_option maxHeartbeats 4000000 in
set_option maxRecDepth 20000 in
theorem jbX7_feed_0 (G : GT) {X : XT} {sh : SH} {L : LH} {n : Nat} {r : Int32} {I' : IH}  {this : Nat}  {v1 : Int32} {v2 : Int32} {I : IH} (F : MF G X RX7 cX7_feed 4 1 (some .int) "feed") (hth : isO sh 7 this) (h : fX7_feed sh this v1 v2 I = some (r, I')) : J G X (QE G X (some (.int r)) sh I' L n) 4 sh I L n 0 0 0 [(0, .ref this), (1, .int v1), (2, .int v2)] [] := by
  unfold fX7_feed at h
  refine j_aload_n (pc := 0) (k0 := 0) F 0 rfl dX7_feed_0 ?_
  refine j_iload_n (pc := 1) (k0 := 2) F 2 rfl dX7_feed_1 ?_
  refine j_iconst (pc := 2) F 0 dX7_feed_2 (by decide) ?_
  refine j_iconst (pc := 3) F 4 dX7_feed_3 (by decide) ?_
  refine j_callV1 (pc := 4) (ci := 7) (As := [.int v2, .int 0, .int 4]) (st := []) (e1 := 0) (es1 := 0) F clX7_215 cwX7_in rfl hth (ctX7_in G) rfl rfl rfl rfl rfl rfl dX7_feed_4 ?_
  refine j_if_ne (pc := 7) F 13 dX7_feed_7 rfl (fun c => ?_) (fun c => ?_)
  · have h := iz_f c h
    refine j_aload_n (pc := 13) (k0 := 0) F 0 rfl dX7_feed_13 ?_
    obtain ⟨x1, hx1, h⟩ := ob h
    refine j_getI (pc := 14) F flX7_38 hx1 dX7_feed_14 ?_
    refine j_iload_n (pc := 17) (k0 := 2) F 2 rfl dX7_feed_17 ?_
    refine j_iadd (pc := 18) F dX7_feed_18 ?_
    refine j_bipush (pc := 19) F 100 dX7_feed_19 (by decide) ?_
    refine j_icmp_le (pc := 21) F 27 dX7_feed_21 rfl (fun c => ?_) (fun c => ?_)
    · have h := iz_t c h
      refine j_iload_n (pc := 27) (k0 := 2) F 2 rfl dX7_feed_27 ?_
      refine j_iconst (pc := 28) F 1 dX7_feed_28 (by decide) ?_
      refine j_isub (pc := 29) F dX7_feed_29 ?_
      refine j_istore_n (pc := 30) (k1 := 3) (ls' := [(3, .int (v2 - 1)), (0, .ref this), (1, .int v1), (2, .int v2)]) F rfl rfl rfl dX7_feed_30 ?_
      refine j_sub [1, 2, 0] rfl ?_
      exact jbX7_feed_31 G F hth 1000 _ _ _ h
    · have h := iz_f c h
      refine j_bipush (pc := 24) F (-4) dX7_feed_24 (by decide) ?_
      have g1 := Option.some.inj h
      obtain ⟨q3, g2⟩ := Prod.mk.inj g1
      subst q3
      subst g2
      exact j_iret (pc := 26) F dX7_feed_26
  · have h := iz_t c h
    refine j_bipush (pc := 10) F (-2) dX7_feed_10 (by decide) ?_
    have g1 := Option.some.inj h
    obtain ⟨q3, g2⟩ := Prod.mk.inj g1
    subst q3
    subst g2
    exact j_iret (pc := 12) F dX7_feed_12
theorem ctX7_feed (G : GT) {sh : SH} {I : IH} {L : LH} {n : Nat} {this : Nat} {v1 : Int32} {v2 : Int32} {r : Int32} {I' : IH}  (hth : isO sh 7 this) (h : fX7_feed sh this v1 v2 I = some (r, I')) : Ct G yX7_feed cX7_feed 4 (some .int) 1 [.ref this, .int v1, .int v2] sh I L n (some (.int r)) sh I' L n 0 0 := by
  refine ct_of (y := yX7_feed) (by decide +kernel) rfl (fun X F => ?_)
  exact jbX7_feed_0 G F hth h
theorem dX7_next_0 : decode cX7_next 0 = .ok (.aload_n 0, 1) := by decide +kernel
theorem dX7_next_1 : decode cX7_next 1 = .ok (.getfield 41, 3) := by decide +kernel
theorem dX7_next_4 : decode cX7_next 4 = .ok (.aload_n 0, 1) := by decide +kernel
theorem dX7_next_5 : decode cX7_next 5 = .ok (.getfield 38, 3) := by decide +kernel
theorem dX7_next_8 : decode cX7_next 8 = .ok (.if_icmp .ge 15, 3) := by decide +kernel
theorem dX7_next_11 : decode cX7_next 11 = .ok (.aload_n 0, 1) := by decide +kernel
theorem dX7_next_12 : decode cX7_next 12 = .ok (.getfield 47, 3) := by decide +kernel
theorem dX7_next_15 : decode cX7_next 15 = .ok (.aload_n 0, 1) := by decide +kernel
theorem dX7_next_16 : decode cX7_next 16 = .ok (.getfield 41, 3) := by decide +kernel
theorem dX7_next_19 : decode cX7_next 19 = .ok (.iaload, 1) := by decide +kernel
theorem dX7_next_20 : decode cX7_next 20 = .ok (.goto 4, 3) := by decide +kernel
theorem dX7_next_23 : decode cX7_next 23 = .ok (.iconst (-1), 1) := by decide +kernel
theorem dX7_next_24 : decode cX7_next 24 = .ok (.ireturn, 1) := by decide +kernel
def fX7_next (sh : SH) (I : IH) (this : Nat) : Option (Int32) :=
  (gI sh I 7 this 10).bind fun x1 =>
  (gI sh I 7 this 9).bind fun x2 =>
  if x2 ≤ x1 then (
    some (-1)) else
  (gR sh 7 this 12).bind fun x3 =>
  (gI sh I 7 this 10).bind fun x4 =>
  (aI sh I 0 x3 x4).bind fun x5 =>
  some x5
set_option maxHeartbeats 4000000 in
set_option maxRecDepth 20000 in
theorem jbX7_next_0 (G : GT) {X : XT} {sh : SH} {I : IH} {L : LH} {n : Nat} {r : Int32}  {this : Nat}   (F : MF G X RX7 cX7_next 1 0 (some .int) "next") (h : fX7_next sh I this  = some r) : J G X (QE G X (some (.int r)) sh I L n) 1 sh I L n 0 0 0 [(0, .ref this)] [] := by
  unfold fX7_next at h
  refine j_aload_n (pc := 0) (k0 := 0) F 0 rfl dX7_next_0 ?_
  obtain ⟨x1, hx1, h⟩ := ob h
  refine j_getI (pc := 1) F flX7_41 hx1 dX7_next_1 ?_
  refine j_aload_n (pc := 4) (k0 := 0) F 0 rfl dX7_next_4 ?_
  obtain ⟨x2, hx2, h⟩ := ob h
  refine j_getI (pc := 5) F flX7_38 hx2 dX7_next_5 ?_
  refine j_icmp_ge (pc := 8) F 23 dX7_next_8 rfl (fun c => ?_) (fun c => ?_)
  · have h := iz_t c h
    refine j_iconst (pc := 23) F (-1) dX7_next_23 (by decide) ?_
    have g1 := Option.some.inj h
    subst g1
    exact j_iret (pc := 24) F dX7_next_24
  · have h := iz_f c h
    refine j_aload_n (pc := 11) (k0 := 0) F 0 rfl dX7_next_11 ?_
    obtain ⟨x3, hx3, h⟩ := ob h
    refine j_getR (pc := 12) F flX7_47 hx3 dX7_next_12 ?_
    refine j_aload_n (pc := 15) (k0 := 0) F 0 rfl dX7_next_15 ?_
    obtain ⟨x4, hx4, h⟩ := ob h
    refine j_getI (pc := 16) F flX7_41 hx4 dX7_next_16 ?_
    obtain ⟨x5, hx5, h⟩ := ob h
    refine j_iald (pc := 19) F hx5 dX7_next_19 ?_
    refine j_goto (pc := 20) F 24 dX7_next_20 rfl ?_
    have g1 := Option.some.inj h
    subst g1
    exact j_iret (pc := 24) F dX7_next_24
theorem ctX7_next (G : GT) {sh : SH} {I : IH} {L : LH} {n : Nat} {this : Nat} {r : Int32}  (h : fX7_next sh I this = some r) : Ct G yX7_next cX7_next 1 (some .int) 0 [.ref this] sh I L n (some (.int r)) sh I L n 0 0 := by
  refine ct_of (y := yX7_next) (by decide +kernel) rfl (fun X F => ?_)
  exact jbX7_next_0 G F h
theorem dX7_second_0 : decode cX7_second 0 = .ok (.aload_n 0, 1) := by decide +kernel
theorem dX7_second_1 : decode cX7_second 1 = .ok (.getfield 41, 3) := by decide +kernel
theorem dX7_second_4 : decode cX7_second 4 = .ok (.iconst 1, 1) := by decide +kernel
theorem dX7_second_5 : decode cX7_second 5 = .ok (.iadd, 1) := by decide +kernel
theorem dX7_second_6 : decode cX7_second 6 = .ok (.aload_n 0, 1) := by decide +kernel
theorem dX7_second_7 : decode cX7_second 7 = .ok (.getfield 38, 3) := by decide +kernel
theorem dX7_second_10 : decode cX7_second 10 = .ok (.if_icmp .ge 17, 3) := by decide +kernel
theorem dX7_second_13 : decode cX7_second 13 = .ok (.aload_n 0, 1) := by decide +kernel
theorem dX7_second_14 : decode cX7_second 14 = .ok (.getfield 47, 3) := by decide +kernel
theorem dX7_second_17 : decode cX7_second 17 = .ok (.aload_n 0, 1) := by decide +kernel
theorem dX7_second_18 : decode cX7_second 18 = .ok (.getfield 41, 3) := by decide +kernel
theorem dX7_second_21 : decode cX7_second 21 = .ok (.iconst 1, 1) := by decide +kernel
theorem dX7_second_22 : decode cX7_second 22 = .ok (.iadd, 1) := by decide +kernel
theorem dX7_second_23 : decode cX7_second 23 = .ok (.iaload, 1) := by decide +kernel
theorem dX7_second_24 : decode cX7_second 24 = .ok (.goto 4, 3) := by decide +kernel
theorem dX7_second_27 : decode cX7_second 27 = .ok (.iconst (-1), 1) := by decide +kernel
theorem dX7_second_28 : decode cX7_second 28 = .ok (.ireturn, 1) := by decide +kernel
def fX7_second (sh : SH) (I : IH) (this : Nat) : Option (Int32) :=
  (gI sh I 7 this 10).bind fun x1 =>
  (gI sh I 7 this 9).bind fun x2 =>
  if x2 ≤ (x1 + 1) then (
    some (-1)) else
  (gR sh 7 this 12).bind fun x3 =>
  (gI sh I 7 this 10).bind fun x4 =>
  (aI sh I 0 x3 (x4 + 1)).bind fun x5 =>
  some x5
set_option maxHeartbeats 4000000 in
set_option maxRecDepth 20000 in
theorem jbX7_second_0 (G : GT) {X : XT} {sh : SH} {I : IH} {L : LH} {n : Nat} {r : Int32}  {this : Nat}   (F : MF G X RX7 cX7_second 1 0 (some .int) "second") (h : fX7_second sh I this  = some r) : J G X (QE G X (some (.int r)) sh I L n) 1 sh I L n 0 0 0 [(0, .ref this)] [] := by
  unfold fX7_second at h
  refine j_aload_n (pc := 0) (k0 := 0) F 0 rfl dX7_second_0 ?_
  obtain ⟨x1, hx1, h⟩ := ob h
  refine j_getI (pc := 1) F flX7_41 hx1 dX7_second_1 ?_
  refine j_iconst (pc := 4) F 1 dX7_second_4 (by decide) ?_
  refine j_iadd (pc := 5) F dX7_second_5 ?_
  refine j_aload_n (pc := 6) (k0 := 0) F 0 rfl dX7_second_6 ?_
  obtain ⟨x2, hx2, h⟩ := ob h
  refine j_getI (pc := 7) F flX7_38 hx2 dX7_second_7 ?_
  refine j_icmp_ge (pc := 10) F 27 dX7_second_10 rfl (fun c => ?_) (fun c => ?_)
  · have h := iz_t c h
    refine j_iconst (pc := 27) F (-1) dX7_second_27 (by decide) ?_
    have g1 := Option.some.inj h
    subst g1
    exact j_iret (pc := 28) F dX7_second_28
  · have h := iz_f c h
    refine j_aload_n (pc := 13) (k0 := 0) F 0 rfl dX7_second_13 ?_
    obtain ⟨x3, hx3, h⟩ := ob h
    refine j_getR (pc := 14) F flX7_47 hx3 dX7_second_14 ?_
    refine j_aload_n (pc := 17) (k0 := 0) F 0 rfl dX7_second_17 ?_
    obtain ⟨x4, hx4, h⟩ := ob h
    refine j_getI (pc := 18) F flX7_41 hx4 dX7_second_18 ?_
    refine j_iconst (pc := 21) F 1 dX7_second_21 (by decide) ?_
    refine j_iadd (pc := 22) F dX7_second_22 ?_
    obtain ⟨x5, hx5, h⟩ := ob h
    refine j_iald (pc := 23) F hx5 dX7_second_23 ?_
    refine j_goto (pc := 24) F 28 dX7_second_24 rfl ?_
    have g1 := Option.some.inj h
    subst g1
    exact j_iret (pc := 28) F dX7_second_28
theorem ctX7_second (G : GT) {sh : SH} {I : IH} {L : LH} {n : Nat} {this : Nat} {r : Int32}  (h : fX7_second sh I this = some r) : Ct G yX7_second cX7_second 1 (some .int) 0 [.ref this] sh I L n (some (.int r)) sh I L n 0 0 := by
  refine ct_of (y := yX7_second) (by decide +kernel) rfl (fun X F => ?_)
  exact jbX7_second_0 G F h
theorem dX7_takesSign_0 : decode cX7_takesSign 0 = .ok (.aload_n 0, 1) := by decide +kernel
theorem dX7_takesSign_1 : decode cX7_takesSign 1 = .ok (.invokevirtual 224, 3) := by decide +kernel
theorem dX7_takesSign_4 : decode cX7_takesSign 4 = .ok (.iload_n 1, 1) := by decide +kernel
theorem dX7_takesSign_5 : decode cX7_takesSign 5 = .ok (.if_icmp .eq 5, 3) := by decide +kernel
theorem dX7_takesSign_8 : decode cX7_takesSign 8 = .ok (.iconst 0, 1) := by decide +kernel
theorem dX7_takesSign_9 : decode cX7_takesSign 9 = .ok (.ireturn, 1) := by decide +kernel
theorem dX7_takesSign_10 : decode cX7_takesSign 10 = .ok (.aload_n 0, 1) := by decide +kernel
theorem dX7_takesSign_11 : decode cX7_takesSign 11 = .ok (.dup, 1) := by decide +kernel
theorem dX7_takesSign_12 : decode cX7_takesSign 12 = .ok (.getfield 41, 3) := by decide +kernel
theorem dX7_takesSign_15 : decode cX7_takesSign 15 = .ok (.iconst 1, 1) := by decide +kernel
theorem dX7_takesSign_16 : decode cX7_takesSign 16 = .ok (.iadd, 1) := by decide +kernel
theorem dX7_takesSign_17 : decode cX7_takesSign 17 = .ok (.putfield 41, 3) := by decide +kernel
theorem dX7_takesSign_20 : decode cX7_takesSign 20 = .ok (.iconst 1, 1) := by decide +kernel
theorem dX7_takesSign_21 : decode cX7_takesSign 21 = .ok (.ireturn, 1) := by decide +kernel
def fX7_takesSign (sh : SH) (this : Nat) (v1 : Int32) (I : IH) : Option (Int32 × IH) :=
  (fX7_next sh I this).bind fun x1 =>
  if x1 = v1 then (
    (gI sh I 7 this 10).bind fun x2 =>
    (pI sh I 7 this 10 (x2 + 1)).bind fun i3 =>
    some (1, i3)) else
  some (0, I)
set_option maxHeartbeats 4000000 in
set_option maxRecDepth 20000 in
theorem jbX7_takesSign_0 (G : GT) {X : XT} {sh : SH} {L : LH} {n : Nat} {r : Int32} {I' : IH}  {this : Nat}  {v1 : Int32} {I : IH} (F : MF G X RX7 cX7_takesSign 2 1 (some .boolean) "takesSign") (hth : isO sh 7 this) (h : fX7_takesSign sh this v1 I = some (r, I')) : J G X (QE G X (some (.int r)) sh I' L n) 2 sh I L n 0 0 0 [(0, .ref this), (1, .int v1)] [] := by
  unfold fX7_takesSign at h
  refine j_aload_n (pc := 0) (k0 := 0) F 0 rfl dX7_takesSign_0 ?_
  obtain ⟨x1, hx1, h⟩ := ob h
  refine j_callV1 (pc := 1) (ci := 7) (As := []) (st := []) (e1 := 0) (es1 := 0) F clX7_224 cwX7_next rfl hth (ctX7_next G hx1) rfl rfl rfl rfl rfl rfl dX7_takesSign_1 ?_
  refine j_iload_n (pc := 4) (k0 := 1) F 1 rfl dX7_takesSign_4 ?_
  refine j_icmp_eq (pc := 5) F 10 dX7_takesSign_5 rfl (fun c => ?_) (fun c => ?_)
  · have h := iz_t c h
    refine j_aload_n (pc := 10) (k0 := 0) F 0 rfl dX7_takesSign_10 ?_
    refine j_dup (pc := 11) F dX7_takesSign_11 rfl ?_
    obtain ⟨x2, hx2, h⟩ := ob h
    refine j_getI (pc := 12) F flX7_41 hx2 dX7_takesSign_12 ?_
    refine j_iconst (pc := 15) F 1 dX7_takesSign_15 (by decide) ?_
    refine j_iadd (pc := 16) F dX7_takesSign_16 ?_
    obtain ⟨i3, hi3, h⟩ := ob h
    refine j_putI (pc := 17) F flX7_41 fp7_10 (fun z => by cases z) hi3 dX7_takesSign_17 ?_
    refine j_iconst (pc := 20) F 1 dX7_takesSign_20 (by decide) ?_
    have g1 := Option.some.inj h
    obtain ⟨q3, g2⟩ := Prod.mk.inj g1
    subst q3
    subst g2
    exact j_zret (pc := 21) F (Or.inr rfl) dX7_takesSign_21
  · have h := iz_f c h
    refine j_iconst (pc := 8) F 0 dX7_takesSign_8 (by decide) ?_
    have g1 := Option.some.inj h
    obtain ⟨q3, g2⟩ := Prod.mk.inj g1
    subst q3
    subst g2
    exact j_zret (pc := 9) F (Or.inl rfl) dX7_takesSign_9
theorem ctX7_takesSign (G : GT) {sh : SH} {I : IH} {L : LH} {n : Nat} {this : Nat} {v1 : Int32} {r : Int32} {I' : IH}  (hth : isO sh 7 this) (h : fX7_takesSign sh this v1 I = some (r, I')) : Ct G yX7_takesSign cX7_takesSign 2 (some .boolean) 1 [.ref this, .int v1] sh I L n (some (.int r)) sh I' L n 0 0 := by
  refine ct_of (y := yX7_takesSign) (by decide +kernel) rfl (fun X F => ?_)
  exact jbX7_takesSign_0 G F hth h
theorem dX7_takesWord_0 : decode cX7_takesWord 0 = .ok (.iload_n 2, 1) := by decide +kernel
theorem dX7_takesWord_1 : decode cX7_takesWord 1 = .ok (.iconst 1, 1) := by decide +kernel
theorem dX7_takesWord_2 : decode cX7_takesWord 2 = .ok (.isub, 1) := by decide +kernel
theorem dX7_takesWord_3 : decode cX7_takesWord 3 = .ok (.istore_n 3, 1) := by decide +kernel
theorem dX7_takesWord_4 : decode cX7_takesWord 4 = .ok (.iload_n 3, 1) := by decide +kernel
theorem dX7_takesWord_5 : decode cX7_takesWord 5 = .ok (.ifCond .lt 29, 3) := by decide +kernel
theorem dX7_takesWord_8 : decode cX7_takesWord 8 = .ok (.aload_n 0, 1) := by decide +kernel
theorem dX7_takesWord_9 : decode cX7_takesWord 9 = .ok (.bipush 96, 2) := by decide +kernel
theorem dX7_takesWord_11 : decode cX7_takesWord 11 = .ok (.iload_n 1, 1) := by decide +kernel
theorem dX7_takesWord_12 : decode cX7_takesWord 12 = .ok (.iconst 5, 1) := by decide +kernel
theorem dX7_takesWord_13 : decode cX7_takesWord 13 = .ok (.iload_n 3, 1) := by decide +kernel
theorem dX7_takesWord_14 : decode cX7_takesWord 14 = .ok (.imul, 1) := by decide +kernel
theorem dX7_takesWord_15 : decode cX7_takesWord 15 = .ok (.ishr, 1) := by decide +kernel
theorem dX7_takesWord_16 : decode cX7_takesWord 16 = .ok (.bipush 31, 2) := by decide +kernel
theorem dX7_takesWord_18 : decode cX7_takesWord 18 = .ok (.iand, 1) := by decide +kernel
theorem dX7_takesWord_19 : decode cX7_takesWord 19 = .ok (.iadd, 1) := by decide +kernel
theorem dX7_takesWord_20 : decode cX7_takesWord 20 = .ok (.invokevirtual 228, 3) := by decide +kernel
theorem dX7_takesWord_23 : decode cX7_takesWord 23 = .ok (.ifCond .ne 5, 3) := by decide +kernel
theorem dX7_takesWord_26 : decode cX7_takesWord 26 = .ok (.iconst 0, 1) := by decide +kernel
theorem dX7_takesWord_27 : decode cX7_takesWord 27 = .ok (.ireturn, 1) := by decide +kernel
theorem dX7_takesWord_28 : decode cX7_takesWord 28 = .ok (.iinc 3 (-1), 3) := by decide +kernel
theorem dX7_takesWord_31 : decode cX7_takesWord 31 = .ok (.goto (-27), 3) := by decide +kernel
theorem dX7_takesWord_34 : decode cX7_takesWord 34 = .ok (.aload_n 0, 1) := by decide +kernel
theorem dX7_takesWord_35 : decode cX7_takesWord 35 = .ok (.bipush 32, 2) := by decide +kernel
theorem dX7_takesWord_37 : decode cX7_takesWord 37 = .ok (.invokevirtual 228, 3) := by decide +kernel
theorem dX7_takesWord_40 : decode cX7_takesWord 40 = .ok (.ireturn, 1) := by decide +kernel
def fX7_takesWord_b4 (sh : SH) (this : Nat) (k34 : (IH → Option (Int32 × IH))) : Nat → Int32 → Int32 → IH → Option (Int32 × IH)
  | 0, _, _, _ => none
  | fuel + 1, v1, v3, I =>
    if v3 < 0 then (
      k34 I) else
    b2 (fX7_takesSign sh this (96 + ((v1 >>> ((5 * v3) &&& 31)) &&& 31)) I) fun x1 i2 =>
    if x1 = 0 then (
      some (0, i2)) else
    fX7_takesWord_b4 sh this k34 fuel v1 (v3 + (-1)) i2
def fX7_takesWord_b34 (sh : SH) (this : Nat) (I : IH) : Option (Int32 × IH) :=
  b2 (fX7_takesSign sh this 32 I) fun x1 i2 =>
  (bz x1).bind fun x3 =>
  some (x3, i2)
def fX7_takesWord (sh : SH) (this : Nat) (v1 : Int32) (v2 : Int32) (I : IH) : Option (Int32 × IH) :=
  fX7_takesWord_b4 sh this (fX7_takesWord_b34 sh this) 1000 v1 (v2 - 1) I
set_option maxHeartbeats 4000000 in
set_option maxRecDepth 20000 in
theorem jbX7_takesWord_4 (G : GT) {X : XT} {sh : SH} {L : LH} {n : Nat} {r : Int32} {I' : IH}  {this : Nat} {k34 : (IH → Option (Int32 × IH))} (F : MF G X RX7 cX7_takesWord 4 2 (some .boolean) "takesWord") (hth : isO sh 7 this)
    (hk34 : ∀ {I : IH}, k34 I = some (r, I') → J G X (QE G X (some (.int r)) sh I' L n) 4 sh I L n 0 0 34 [(0, .ref this)] []) : ∀ (fuel : Nat) (v1 : Int32) (v3 : Int32) (I : IH), fX7_takesWord_b4 sh this k34 fuel v1 v3 I = some (r, I') → J G X (QE G X (some (.int r)) sh I' L n) 4 sh I L n 0 0 4 [(0, .ref this), (1, .int v1), (3, .int v3)] []
  | 0 => by
    intros
    rename_i h
    exact absurd (show none = some _ from h) (by intro z; cases z)
  | fuel + 1 => by
    intro v1 v3 I h
    rw [fX7_takesWord_b4] at h
    refine j_iload_n (pc := 4) (k0 := 3) F 2 rfl dX7_takesWord_4 ?_
    refine j_if_lt (pc := 5) F 34 dX7_takesWord_5 rfl (fun c => ?_) (fun c => ?_)
    · have h := iz_t c h
      refine j_sub [0] rfl ?_
      exact hk34 h
    · have h := iz_f c h
      refine j_aload_n (pc := 8) (k0 := 0) F 0 rfl dX7_takesWord_8 ?_
      refine j_bipush (pc := 9) F 96 dX7_takesWord_9 (by decide) ?_
      refine j_iload_n (pc := 11) (k0 := 1) F 1 rfl dX7_takesWord_11 ?_
      refine j_iconst (pc := 12) F 5 dX7_takesWord_12 (by decide) ?_
      refine j_iload_n (pc := 13) (k0 := 3) F 2 rfl dX7_takesWord_13 ?_
      refine j_imul (pc := 14) F dX7_takesWord_14 ?_
      refine j_ishr (pc := 15) F dX7_takesWord_15 ?_
      refine j_bipush (pc := 16) F 31 dX7_takesWord_16 (by decide) ?_
      refine j_iand (pc := 18) F dX7_takesWord_18 ?_
      refine j_iadd (pc := 19) F dX7_takesWord_19 ?_
      obtain ⟨x1, i2, hx1, h⟩ := b2_obt h
      refine j_callV1 (pc := 20) (ci := 7) (As := [.int (96 + ((v1 >>> ((5 * v3) &&& 31)) &&& 31))]) (st := []) (e1 := 0) (es1 := 0) F clX7_228 cwX7_takesSign rfl hth (ctX7_takesSign G hth hx1) rfl rfl rfl rfl rfl rfl dX7_takesWord_20 ?_
      refine j_if_ne (pc := 23) F 28 dX7_takesWord_23 rfl (fun c => ?_) (fun c => ?_)
      · have h := iz_f c h
        refine j_iinc (pc := 28) (k1 := 3) (ls' := [(3, .int (v3 + (-1))), (0, .ref this), (1, .int v1)]) F (v3 + (-1)) 2 rfl (congrArg (fun z => v3 + z) (by decide)) rfl rfl dX7_takesWord_28 ?_
        refine j_goto (pc := 31) F 4 dX7_takesWord_31 rfl ?_
        refine j_sub [1, 2, 0] rfl ?_
        exact jbX7_takesWord_4 G F hth hk34 fuel _ _ _ h
      · have h := iz_t c h
        refine j_iconst (pc := 26) F 0 dX7_takesWord_26 (by decide) ?_
        have g1 := Option.some.inj h
        obtain ⟨q3, g2⟩ := Prod.mk.inj g1
        subst q3
        subst g2
        exact j_zret (pc := 27) F (Or.inl rfl) dX7_takesWord_27
set_option maxHeartbeats 4000000 in
set_option maxRecDepth 20000 in
theorem jbX7_takesWord_34 (G : GT) {X : XT} {sh : SH} {L : LH} {n : Nat} {r : Int32} {I' : IH}  {this : Nat}  {I : IH} (F : MF G X RX7 cX7_takesWord 4 2 (some .boolean) "takesWord") (hth : isO sh 7 this) (h : fX7_takesWord_b34 sh this I = some (r, I')) : J G X (QE G X (some (.int r)) sh I' L n) 4 sh I L n 0 0 34 [(0, .ref this)] [] := by
  unfold fX7_takesWord_b34 at h
  refine j_aload_n (pc := 34) (k0 := 0) F 0 rfl dX7_takesWord_34 ?_
  refine j_bipush (pc := 35) F 32 dX7_takesWord_35 (by decide) ?_
  obtain ⟨x1, i2, hx1, h⟩ := b2_obt h
  refine j_callV1 (pc := 37) (ci := 7) (As := [.int 32]) (st := []) (e1 := 0) (es1 := 0) F clX7_228 cwX7_takesSign rfl hth (ctX7_takesSign G hth hx1) rfl rfl rfl rfl rfl rfl dX7_takesWord_37 ?_
  obtain ⟨x3, hx3, h⟩ := ob h
  obtain ⟨hzz, hz⟩ := bz_obt hx3
  rw [← hzz] at hz ⊢
  have g1 := Option.some.inj h
  obtain ⟨q3, g2⟩ := Prod.mk.inj g1
  subst q3
  subst g2
  exact j_zret (pc := 40) F (hz) dX7_takesWord_40
set_option maxHeartbeats 4000000 in
set_option maxRecDepth 20000 in
theorem jbX7_takesWord_0 (G : GT) {X : XT} {sh : SH} {L : LH} {n : Nat} {r : Int32} {I' : IH}  {this : Nat}  {v1 : Int32} {v2 : Int32} {I : IH} (F : MF G X RX7 cX7_takesWord 4 2 (some .boolean) "takesWord") (hth : isO sh 7 this) (h : fX7_takesWord sh this v1 v2 I = some (r, I')) : J G X (QE G X (some (.int r)) sh I' L n) 4 sh I L n 0 0 0 [(0, .ref this), (1, .int v1), (2, .int v2)] [] := by
  unfold fX7_takesWord at h
  refine j_iload_n (pc := 0) (k0 := 2) F 2 rfl dX7_takesWord_0 ?_
  refine j_iconst (pc := 1) F 1 dX7_takesWord_1 (by decide) ?_
  refine j_isub (pc := 2) F dX7_takesWord_2 ?_
  refine j_istore_n (pc := 3) (k1 := 3) (ls' := [(3, .int (v2 - 1)), (0, .ref this), (1, .int v1), (2, .int v2)]) F rfl rfl rfl dX7_takesWord_3 ?_
  refine j_sub [1, 2, 0] rfl ?_
  exact jbX7_takesWord_4 G F hth (fun h => jbX7_takesWord_34 G F hth h) 1000 _ _ _ h
theorem ctX7_takesWord (G : GT) {sh : SH} {I : IH} {L : LH} {n : Nat} {this : Nat} {v1 : Int32} {v2 : Int32} {r : Int32} {I' : IH}  (hth : isO sh 7 this) (h : fX7_takesWord sh this v1 v2 I = some (r, I')) : Ct G yX7_takesWord cX7_takesWord 4 (some .boolean) 2 [.ref this, .int v1, .int v2] sh I L n (some (.int r)) sh I' L n 0 0 := by
  refine ct_of (y := yX7_takesWord) (by decide +kernel) rfl (fun X F => ?_)
  exact jbX7_takesWord_0 G F hth h
theorem dX7_isDigit_0 : decode cX7_isDigit 0 = .ok (.aload_n 0, 1) := by decide +kernel
theorem dX7_isDigit_1 : decode cX7_isDigit 1 = .ok (.aload_n 0, 1) := by decide +kernel
theorem dX7_isDigit_2 : decode cX7_isDigit 2 = .ok (.invokevirtual 224, 3) := by decide +kernel
theorem dX7_isDigit_5 : decode cX7_isDigit 5 = .ok (.bipush 48, 2) := by decide +kernel
theorem dX7_isDigit_7 : decode cX7_isDigit 7 = .ok (.bipush 57, 2) := by decide +kernel
theorem dX7_isDigit_9 : decode cX7_isDigit 9 = .ok (.invokevirtual 215, 3) := by decide +kernel
theorem dX7_isDigit_12 : decode cX7_isDigit 12 = .ok (.ireturn, 1) := by decide +kernel
def fX7_isDigit (sh : SH) (I : IH) (this : Nat) : Option (Int32) :=
  (fX7_next sh I this).bind fun x1 =>
  some (fX7_in x1 48 57)
set_option maxHeartbeats 4000000 in
set_option maxRecDepth 20000 in
theorem jbX7_isDigit_0 (G : GT) {X : XT} {sh : SH} {I : IH} {L : LH} {n : Nat} {r : Int32}  {this : Nat}   (F : MF G X RX7 cX7_isDigit 1 1 (some .boolean) "isDigit") (hth : isO sh 7 this) (h : fX7_isDigit sh I this  = some r) : J G X (QE G X (some (.int r)) sh I L n) 1 sh I L n 0 0 0 [(0, .ref this)] [] := by
  unfold fX7_isDigit at h
  refine j_aload_n (pc := 0) (k0 := 0) F 0 rfl dX7_isDigit_0 ?_
  refine j_aload_n (pc := 1) (k0 := 0) F 0 rfl dX7_isDigit_1 ?_
  obtain ⟨x1, hx1, h⟩ := ob h
  refine j_callV1 (pc := 2) (ci := 7) (As := []) (st := [.ref this]) (e1 := 0) (es1 := 0) F clX7_224 cwX7_next rfl hth (ctX7_next G hx1) rfl rfl rfl rfl rfl rfl dX7_isDigit_2 ?_
  refine j_bipush (pc := 5) F 48 dX7_isDigit_5 (by decide) ?_
  refine j_bipush (pc := 7) F 57 dX7_isDigit_7 (by decide) ?_
  refine j_callV1 (pc := 9) (ci := 7) (As := [.int x1, .int 48, .int 57]) (st := []) (e1 := 0) (es1 := 0) F clX7_215 cwX7_in rfl hth (ctX7_in G) rfl rfl rfl rfl rfl rfl dX7_isDigit_9 ?_
  have g1 := Option.some.inj h
  subst g1
  exact j_zret (pc := 12) F (zbX7_in) dX7_isDigit_12
theorem ctX7_isDigit (G : GT) {sh : SH} {I : IH} {L : LH} {n : Nat} {this : Nat} {r : Int32}  (hth : isO sh 7 this) (h : fX7_isDigit sh I this = some r) : Ct G yX7_isDigit cX7_isDigit 1 (some .boolean) 1 [.ref this] sh I L n (some (.int r)) sh I L n 0 0 := by
  refine ct_of (y := yX7_isDigit) (by decide +kernel) rfl (fun X F => ?_)
  exact jbX7_isDigit_0 G F hth h
theorem dX7_takesNumber_0 : decode cX7_takesNumber 0 = .ok (.aload_n 0, 1) := by decide +kernel
theorem dX7_takesNumber_1 : decode cX7_takesNumber 1 = .ok (.invokevirtual 231, 3) := by decide +kernel
theorem dX7_takesNumber_4 : decode cX7_takesNumber 4 = .ok (.ifCond .ne 5, 3) := by decide +kernel
theorem dX7_takesNumber_7 : decode cX7_takesNumber 7 = .ok (.iconst 0, 1) := by decide +kernel
theorem dX7_takesNumber_8 : decode cX7_takesNumber 8 = .ok (.ireturn, 1) := by decide +kernel
theorem dX7_takesNumber_9 : decode cX7_takesNumber 9 = .ok (.aload_n 0, 1) := by decide +kernel
theorem dX7_takesNumber_10 : decode cX7_takesNumber 10 = .ok (.iconst 0, 1) := by decide +kernel
theorem dX7_takesNumber_11 : decode cX7_takesNumber 11 = .ok (.putfield 44, 3) := by decide +kernel
theorem dX7_takesNumber_14 : decode cX7_takesNumber 14 = .ok (.iconst 0, 1) := by decide +kernel
theorem dX7_takesNumber_15 : decode cX7_takesNumber 15 = .ok (.istore_n 1, 1) := by decide +kernel
theorem dX7_takesNumber_16 : decode cX7_takesNumber 16 = .ok (.iload_n 1, 1) := by decide +kernel
theorem dX7_takesNumber_17 : decode cX7_takesNumber 17 = .ok (.iconst 2, 1) := by decide +kernel
theorem dX7_takesNumber_18 : decode cX7_takesNumber 18 = .ok (.if_icmp .ge 45, 3) := by decide +kernel
theorem dX7_takesNumber_21 : decode cX7_takesNumber 21 = .ok (.aload_n 0, 1) := by decide +kernel
theorem dX7_takesNumber_22 : decode cX7_takesNumber 22 = .ok (.invokevirtual 231, 3) := by decide +kernel
theorem dX7_takesNumber_25 : decode cX7_takesNumber 25 = .ok (.ifCond .eq 38, 3) := by decide +kernel
theorem dX7_takesNumber_28 : decode cX7_takesNumber 28 = .ok (.aload_n 0, 1) := by decide +kernel
theorem dX7_takesNumber_29 : decode cX7_takesNumber 29 = .ok (.bipush 10, 2) := by decide +kernel
theorem dX7_takesNumber_31 : decode cX7_takesNumber 31 = .ok (.aload_n 0, 1) := by decide +kernel
theorem dX7_takesNumber_32 : decode cX7_takesNumber 32 = .ok (.getfield 44, 3) := by decide +kernel
theorem dX7_takesNumber_35 : decode cX7_takesNumber 35 = .ok (.imul, 1) := by decide +kernel
theorem dX7_takesNumber_36 : decode cX7_takesNumber 36 = .ok (.aload_n 0, 1) := by decide +kernel
theorem dX7_takesNumber_37 : decode cX7_takesNumber 37 = .ok (.invokevirtual 224, 3) := by decide +kernel
theorem dX7_takesNumber_40 : decode cX7_takesNumber 40 = .ok (.iadd, 1) := by decide +kernel
theorem dX7_takesNumber_41 : decode cX7_takesNumber 41 = .ok (.bipush 48, 2) := by decide +kernel
theorem dX7_takesNumber_43 : decode cX7_takesNumber 43 = .ok (.isub, 1) := by decide +kernel
theorem dX7_takesNumber_44 : decode cX7_takesNumber 44 = .ok (.putfield 44, 3) := by decide +kernel
theorem dX7_takesNumber_47 : decode cX7_takesNumber 47 = .ok (.aload_n 0, 1) := by decide +kernel
theorem dX7_takesNumber_48 : decode cX7_takesNumber 48 = .ok (.dup, 1) := by decide +kernel
theorem dX7_takesNumber_49 : decode cX7_takesNumber 49 = .ok (.getfield 41, 3) := by decide +kernel
theorem dX7_takesNumber_52 : decode cX7_takesNumber 52 = .ok (.iconst 1, 1) := by decide +kernel
theorem dX7_takesNumber_53 : decode cX7_takesNumber 53 = .ok (.iadd, 1) := by decide +kernel
theorem dX7_takesNumber_54 : decode cX7_takesNumber 54 = .ok (.putfield 41, 3) := by decide +kernel
theorem dX7_takesNumber_57 : decode cX7_takesNumber 57 = .ok (.iinc 1 1, 3) := by decide +kernel
theorem dX7_takesNumber_60 : decode cX7_takesNumber 60 = .ok (.goto (-44), 3) := by decide +kernel
theorem dX7_takesNumber_63 : decode cX7_takesNumber 63 = .ok (.iconst 1, 1) := by decide +kernel
theorem dX7_takesNumber_64 : decode cX7_takesNumber 64 = .ok (.ireturn, 1) := by decide +kernel
def fX7_takesNumber_b16 (sh : SH) (this : Nat) : Nat → Int32 → IH → Option (Int32 × IH)
  | 0, _, _ => none
  | fuel + 1, v1, I =>
    if 2 ≤ v1 then (
      some (1, I)) else
    (fX7_isDigit sh I this).bind fun x1 =>
    if x1 = 0 then (
      some (1, I)) else
    (gI sh I 7 this 11).bind fun x2 =>
    (fX7_next sh I this).bind fun x3 =>
    (pI sh I 7 this 11 (((10 * x2) + x3) - 48)).bind fun i4 =>
    (gI sh i4 7 this 10).bind fun x5 =>
    (pI sh i4 7 this 10 (x5 + 1)).bind fun i6 =>
    fX7_takesNumber_b16 sh this fuel (v1 + 1) i6
def fX7_takesNumber (sh : SH) (this : Nat) (I : IH) : Option (Int32 × IH) :=
  (fX7_isDigit sh I this).bind fun x1 =>
  if x1 = 0 then (
    some (0, I)) else
  (pI sh I 7 this 11 0).bind fun i2 =>
  fX7_takesNumber_b16 sh this 1000 0 i2
set_option maxHeartbeats 4000000 in
set_option maxRecDepth 20000 in
theorem jbX7_takesNumber_16 (G : GT) {X : XT} {sh : SH} {L : LH} {n : Nat} {r : Int32} {I' : IH}  {this : Nat}  (F : MF G X RX7 cX7_takesNumber 2 2 (some .boolean) "takesNumber") (hth : isO sh 7 this) : ∀ (fuel : Nat) (v1 : Int32) (I : IH), fX7_takesNumber_b16 sh this fuel v1 I = some (r, I') → J G X (QE G X (some (.int r)) sh I' L n) 2 sh I L n 0 0 16 [(0, .ref this), (1, .int v1)] []
  | 0 => by
    intros
    rename_i h
    exact absurd (show none = some _ from h) (by intro z; cases z)
  | fuel + 1 => by
    intro v1 I h
    rw [fX7_takesNumber_b16] at h
    refine j_iload_n (pc := 16) (k0 := 1) F 1 rfl dX7_takesNumber_16 ?_
    refine j_iconst (pc := 17) F 2 dX7_takesNumber_17 (by decide) ?_
    refine j_icmp_ge (pc := 18) F 63 dX7_takesNumber_18 rfl (fun c => ?_) (fun c => ?_)
    · have h := iz_t c h
      refine j_iconst (pc := 63) F 1 dX7_takesNumber_63 (by decide) ?_
      have g1 := Option.some.inj h
      obtain ⟨q3, g2⟩ := Prod.mk.inj g1
      subst q3
      subst g2
      exact j_zret (pc := 64) F (Or.inr rfl) dX7_takesNumber_64
    · have h := iz_f c h
      refine j_aload_n (pc := 21) (k0 := 0) F 0 rfl dX7_takesNumber_21 ?_
      obtain ⟨x1, hx1, h⟩ := ob h
      refine j_callV1 (pc := 22) (ci := 7) (As := []) (st := []) (e1 := 0) (es1 := 0) F clX7_231 cwX7_isDigit rfl hth (ctX7_isDigit G hth hx1) rfl rfl rfl rfl rfl rfl dX7_takesNumber_22 ?_
      refine j_if_eq (pc := 25) F 63 dX7_takesNumber_25 rfl (fun c => ?_) (fun c => ?_)
      · have h := iz_t c h
        refine j_iconst (pc := 63) F 1 dX7_takesNumber_63 (by decide) ?_
        have g1 := Option.some.inj h
        obtain ⟨q3, g2⟩ := Prod.mk.inj g1
        subst q3
        subst g2
        exact j_zret (pc := 64) F (Or.inr rfl) dX7_takesNumber_64
      · have h := iz_f c h
        refine j_aload_n (pc := 28) (k0 := 0) F 0 rfl dX7_takesNumber_28 ?_
        refine j_bipush (pc := 29) F 10 dX7_takesNumber_29 (by decide) ?_
        refine j_aload_n (pc := 31) (k0 := 0) F 0 rfl dX7_takesNumber_31 ?_
        obtain ⟨x2, hx2, h⟩ := ob h
        refine j_getI (pc := 32) F flX7_44 hx2 dX7_takesNumber_32 ?_
        refine j_imul (pc := 35) F dX7_takesNumber_35 ?_
        refine j_aload_n (pc := 36) (k0 := 0) F 0 rfl dX7_takesNumber_36 ?_
        obtain ⟨x3, hx3, h⟩ := ob h
        refine j_callV1 (pc := 37) (ci := 7) (As := []) (st := [.int (10 * x2), .ref this]) (e1 := 0) (es1 := 0) F clX7_224 cwX7_next rfl hth (ctX7_next G hx3) rfl rfl rfl rfl rfl rfl dX7_takesNumber_37 ?_
        refine j_iadd (pc := 40) F dX7_takesNumber_40 ?_
        refine j_bipush (pc := 41) F 48 dX7_takesNumber_41 (by decide) ?_
        refine j_isub (pc := 43) F dX7_takesNumber_43 ?_
        obtain ⟨i4, hi4, h⟩ := ob h
        refine j_putI (pc := 44) F flX7_44 fp7_11 (fun z => by cases z) hi4 dX7_takesNumber_44 ?_
        refine j_aload_n (pc := 47) (k0 := 0) F 0 rfl dX7_takesNumber_47 ?_
        refine j_dup (pc := 48) F dX7_takesNumber_48 rfl ?_
        obtain ⟨x5, hx5, h⟩ := ob h
        refine j_getI (pc := 49) F flX7_41 hx5 dX7_takesNumber_49 ?_
        refine j_iconst (pc := 52) F 1 dX7_takesNumber_52 (by decide) ?_
        refine j_iadd (pc := 53) F dX7_takesNumber_53 ?_
        obtain ⟨i6, hi6, h⟩ := ob h
        refine j_putI (pc := 54) F flX7_41 fp7_10 (fun z => by cases z) hi6 dX7_takesNumber_54 ?_
        refine j_iinc (pc := 57) (k1 := 1) (ls' := [(1, .int (v1 + 1)), (0, .ref this)]) F (v1 + 1) 1 rfl rfl rfl rfl dX7_takesNumber_57 ?_
        refine j_goto (pc := 60) F 16 dX7_takesNumber_60 rfl ?_
        refine j_sub [1, 0] rfl ?_
        exact jbX7_takesNumber_16 G F hth fuel _ _ h
set_option maxHeartbeats 4000000 in
set_option maxRecDepth 20000 in
theorem jbX7_takesNumber_0 (G : GT) {X : XT} {sh : SH} {L : LH} {n : Nat} {r : Int32} {I' : IH}  {this : Nat}  {I : IH} (F : MF G X RX7 cX7_takesNumber 2 2 (some .boolean) "takesNumber") (hth : isO sh 7 this) (h : fX7_takesNumber sh this I = some (r, I')) : J G X (QE G X (some (.int r)) sh I' L n) 2 sh I L n 0 0 0 [(0, .ref this)] [] := by
  unfold fX7_takesNumber at h
  refine j_aload_n (pc := 0) (k0 := 0) F 0 rfl dX7_takesNumber_0 ?_
  obtain ⟨x1, hx1, h⟩ := ob h
  refine j_callV1 (pc := 1) (ci := 7) (As := []) (st := []) (e1 := 0) (es1 := 0) F clX7_231 cwX7_isDigit rfl hth (ctX7_isDigit G hth hx1) rfl rfl rfl rfl rfl rfl dX7_takesNumber_1 ?_
  refine j_if_ne (pc := 4) F 9 dX7_takesNumber_4 rfl (fun c => ?_) (fun c => ?_)
  · have h := iz_f c h
    refine j_aload_n (pc := 9) (k0 := 0) F 0 rfl dX7_takesNumber_9 ?_
    refine j_iconst (pc := 10) F 0 dX7_takesNumber_10 (by decide) ?_
    obtain ⟨i2, hi2, h⟩ := ob h
    refine j_putI (pc := 11) F flX7_44 fp7_11 (fun z => by cases z) hi2 dX7_takesNumber_11 ?_
    refine j_iconst (pc := 14) F 0 dX7_takesNumber_14 (by decide) ?_
    refine j_istore_n (pc := 15) (k1 := 1) (ls' := [(1, .int 0), (0, .ref this)]) F rfl rfl rfl dX7_takesNumber_15 ?_
    refine j_sub [1, 0] rfl ?_
    exact jbX7_takesNumber_16 G F hth 1000 _ _ h
  · have h := iz_t c h
    refine j_iconst (pc := 7) F 0 dX7_takesNumber_7 (by decide) ?_
    have g1 := Option.some.inj h
    obtain ⟨q3, g2⟩ := Prod.mk.inj g1
    subst q3
    subst g2
    exact j_zret (pc := 8) F (Or.inl rfl) dX7_takesNumber_8
theorem ctX7_takesNumber (G : GT) {sh : SH} {I : IH} {L : LH} {n : Nat} {this : Nat} {r : Int32} {I' : IH}  (hth : isO sh 7 this) (h : fX7_takesNumber sh this I = some (r, I')) : Ct G yX7_takesNumber cX7_takesNumber 2 (some .boolean) 2 [.ref this] sh I L n (some (.int r)) sh I' L n 0 0 := by
  refine ct_of (y := yX7_takesNumber) (by decide +kernel) rfl (fun X F => ?_)
  exact jbX7_takesNumber_0 G F hth h
theorem dX7_put_0 : decode cX7_put 0 = .ok (.aload_n 0, 1) := by decide +kernel
theorem dX7_put_1 : decode cX7_put 1 = .ok (.getfield 68, 3) := by decide +kernel
theorem dX7_put_4 : decode cX7_put 4 = .ok (.aload_n 0, 1) := by decide +kernel
theorem dX7_put_5 : decode cX7_put 5 = .ok (.getfield 74, 3) := by decide +kernel
theorem dX7_put_8 : decode cX7_put 8 = .ok (.iload_n 1, 1) := by decide +kernel
theorem dX7_put_9 : decode cX7_put 9 = .ok (.iastore, 1) := by decide +kernel
theorem dX7_put_10 : decode cX7_put 10 = .ok (.aload_n 0, 1) := by decide +kernel
theorem dX7_put_11 : decode cX7_put 11 = .ok (.dup, 1) := by decide +kernel
theorem dX7_put_12 : decode cX7_put 12 = .ok (.getfield 74, 3) := by decide +kernel
theorem dX7_put_15 : decode cX7_put 15 = .ok (.iconst 1, 1) := by decide +kernel
theorem dX7_put_16 : decode cX7_put 16 = .ok (.iadd, 1) := by decide +kernel
theorem dX7_put_17 : decode cX7_put 17 = .ok (.putfield 74, 3) := by decide +kernel
theorem dX7_put_20 : decode cX7_put 20 = .ok (.return_, 1) := by decide +kernel
def fX7_put (sh : SH) (this : Nat) (v1 : Int32) (I : IH) : Option (IH) :=
  (gR sh 7 this 19).bind fun x1 =>
  (gI sh I 7 this 21).bind fun x2 =>
  (sI sh I x1 x2 v1).bind fun i3 =>
  (gI sh i3 7 this 21).bind fun x4 =>
  (pI sh i3 7 this 21 (x4 + 1)).bind fun i5 =>
  some i5
set_option maxHeartbeats 4000000 in
set_option maxRecDepth 20000 in
theorem jbX7_put_0 (G : GT) {X : XT} {sh : SH} {L : LH} {n : Nat} {I' : IH}  {this : Nat}  {v1 : Int32} {I : IH} (F : MF G X RX7 cX7_put 2 0 none "put") (h : fX7_put sh this v1 I = some I') : J G X (QE G X (none) sh I' L n) 2 sh I L n 0 0 0 [(0, .ref this), (1, .int v1)] [] := by
  unfold fX7_put at h
  refine j_aload_n (pc := 0) (k0 := 0) F 0 rfl dX7_put_0 ?_
  obtain ⟨x1, hx1, h⟩ := ob h
  refine j_getR (pc := 1) F flX7_68 hx1 dX7_put_1 ?_
  refine j_aload_n (pc := 4) (k0 := 0) F 0 rfl dX7_put_4 ?_
  obtain ⟨x2, hx2, h⟩ := ob h
  refine j_getI (pc := 5) F flX7_74 hx2 dX7_put_5 ?_
  refine j_iload_n (pc := 8) (k0 := 1) F 1 rfl dX7_put_8 ?_
  obtain ⟨i3, hi3, h⟩ := ob h
  refine j_iast (pc := 9) F hi3 dX7_put_9 ?_
  refine j_aload_n (pc := 10) (k0 := 0) F 0 rfl dX7_put_10 ?_
  refine j_dup (pc := 11) F dX7_put_11 rfl ?_
  obtain ⟨x4, hx4, h⟩ := ob h
  refine j_getI (pc := 12) F flX7_74 hx4 dX7_put_12 ?_
  refine j_iconst (pc := 15) F 1 dX7_put_15 (by decide) ?_
  refine j_iadd (pc := 16) F dX7_put_16 ?_
  obtain ⟨i5, hi5, h⟩ := ob h
  refine j_putI (pc := 17) F flX7_74 fp7_21 (fun z => by cases z) hi5 dX7_put_17 ?_
  have g1 := Option.some.inj h
  subst g1
  exact j_vret (pc := 20) F dX7_put_20
theorem ctX7_put (G : GT) {sh : SH} {I : IH} {L : LH} {n : Nat} {this : Nat} {v1 : Int32} {I' : IH}  (h : fX7_put sh this v1 I = some I') : Ct G yX7_put cX7_put 2 none 0 [.ref this, .int v1] sh I L n (none) sh I' L n 0 0 := by
  refine ct_of (y := yX7_put) (by decide +kernel) rfl (fun X F => ?_)
  exact jbX7_put_0 G F h
theorem dX7_whole_0 : decode cX7_whole 0 = .ok (.aload_n 0, 1) := by decide +kernel
theorem dX7_whole_1 : decode cX7_whole 1 = .ok (.getfield 77, 3) := by decide +kernel
theorem dX7_whole_4 : decode cX7_whole 4 = .ok (.ifCond .le 48, 3) := by decide +kernel
theorem dX7_whole_7 : decode cX7_whole 7 = .ok (.aload_n 0, 1) := by decide +kernel
theorem dX7_whole_8 : decode cX7_whole 8 = .ok (.getfield 71, 3) := by decide +kernel
theorem dX7_whole_11 : decode cX7_whole 11 = .ok (.aload_n 0, 1) := by decide +kernel
theorem dX7_whole_12 : decode cX7_whole 12 = .ok (.getfield 77, 3) := by decide +kernel
theorem dX7_whole_15 : decode cX7_whole 15 = .ok (.iconst 1, 1) := by decide +kernel
theorem dX7_whole_16 : decode cX7_whole 16 = .ok (.isub, 1) := by decide +kernel
theorem dX7_whole_17 : decode cX7_whole 17 = .ok (.iaload, 1) := by decide +kernel
theorem dX7_whole_18 : decode cX7_whole 18 = .ok (.bipush 33, 2) := by decide +kernel
theorem dX7_whole_20 : decode cX7_whole 20 = .ok (.if_icmp .ne 32, 3) := by decide +kernel
theorem dX7_whole_23 : decode cX7_whole 23 = .ok (.aload_n 0, 1) := by decide +kernel
theorem dX7_whole_24 : decode cX7_whole 24 = .ok (.bipush (-33), 2) := by decide +kernel
theorem dX7_whole_26 : decode cX7_whole 26 = .ok (.invokevirtual 235, 3) := by decide +kernel
theorem dX7_whole_29 : decode cX7_whole 29 = .ok (.aload_n 0, 1) := by decide +kernel
theorem dX7_whole_30 : decode cX7_whole 30 = .ok (.dup, 1) := by decide +kernel
theorem dX7_whole_31 : decode cX7_whole 31 = .ok (.getfield 77, 3) := by decide +kernel
theorem dX7_whole_34 : decode cX7_whole 34 = .ok (.iconst 1, 1) := by decide +kernel
theorem dX7_whole_35 : decode cX7_whole 35 = .ok (.isub, 1) := by decide +kernel
theorem dX7_whole_36 : decode cX7_whole 36 = .ok (.putfield 77, 3) := by decide +kernel
theorem dX7_whole_39 : decode cX7_whole 39 = .ok (.aload_n 0, 1) := by decide +kernel
theorem dX7_whole_40 : decode cX7_whole 40 = .ok (.dup, 1) := by decide +kernel
theorem dX7_whole_41 : decode cX7_whole 41 = .ok (.getfield 80, 3) := by decide +kernel
theorem dX7_whole_44 : decode cX7_whole 44 = .ok (.iconst 1, 1) := by decide +kernel
theorem dX7_whole_45 : decode cX7_whole 45 = .ok (.isub, 1) := by decide +kernel
theorem dX7_whole_46 : decode cX7_whole 46 = .ok (.putfield 80, 3) := by decide +kernel
theorem dX7_whole_49 : decode cX7_whole 49 = .ok (.goto (-49), 3) := by decide +kernel
theorem dX7_whole_52 : decode cX7_whole 52 = .ok (.return_, 1) := by decide +kernel
def fX7_whole_b0 (sh : SH) (this : Nat) : Nat → IH → Option (IH)
  | 0, _ => none
  | fuel + 1, I =>
    (gI sh I 7 this 22).bind fun x1 =>
    if x1 ≤ 0 then (
      some I) else
    (gR sh 7 this 20).bind fun x2 =>
    (gI sh I 7 this 22).bind fun x3 =>
    (aI sh I 0 x2 (x3 - 1)).bind fun x4 =>
    if x4 = 33 then (
      (fX7_put sh this (-33) I).bind fun i5 =>
      (gI sh i5 7 this 22).bind fun x6 =>
      (pI sh i5 7 this 22 (x6 - 1)).bind fun i7 =>
      (gI sh i7 7 this 23).bind fun x8 =>
      (pI sh i7 7 this 23 (x8 - 1)).bind fun i9 =>
      fX7_whole_b0 sh this fuel i9) else
    some I
def fX7_whole (sh : SH) (this : Nat) (I : IH) : Option (IH) := fX7_whole_b0 sh this 1000 I
set_option maxHeartbeats 4000000 in
set_option maxRecDepth 20000 in
theorem jbX7_whole_0 (G : GT) {X : XT} {sh : SH} {L : LH} {n : Nat} {I' : IH}  {this : Nat}  (F : MF G X RX7 cX7_whole 1 1 none "whole") (hth : isO sh 7 this) : ∀ (fuel : Nat) (I : IH), fX7_whole_b0 sh this fuel I = some I' → J G X (QE G X (none) sh I' L n) 1 sh I L n 0 0 0 [(0, .ref this)] []
  | 0 => by
    intros
    rename_i h
    exact absurd (show none = some _ from h) (by intro z; cases z)
  | fuel + 1 => by
    intro I h
    rw [fX7_whole_b0] at h
    refine j_aload_n (pc := 0) (k0 := 0) F 0 rfl dX7_whole_0 ?_
    obtain ⟨x1, hx1, h⟩ := ob h
    refine j_getI (pc := 1) F flX7_77 hx1 dX7_whole_1 ?_
    refine j_if_le (pc := 4) F 52 dX7_whole_4 rfl (fun c => ?_) (fun c => ?_)
    · have h := iz_t c h
      have g1 := Option.some.inj h
      subst g1
      exact j_vret (pc := 52) F dX7_whole_52
    · have h := iz_f c h
      refine j_aload_n (pc := 7) (k0 := 0) F 0 rfl dX7_whole_7 ?_
      obtain ⟨x2, hx2, h⟩ := ob h
      refine j_getR (pc := 8) F flX7_71 hx2 dX7_whole_8 ?_
      refine j_aload_n (pc := 11) (k0 := 0) F 0 rfl dX7_whole_11 ?_
      obtain ⟨x3, hx3, h⟩ := ob h
      refine j_getI (pc := 12) F flX7_77 hx3 dX7_whole_12 ?_
      refine j_iconst (pc := 15) F 1 dX7_whole_15 (by decide) ?_
      refine j_isub (pc := 16) F dX7_whole_16 ?_
      obtain ⟨x4, hx4, h⟩ := ob h
      refine j_iald (pc := 17) F hx4 dX7_whole_17 ?_
      refine j_bipush (pc := 18) F 33 dX7_whole_18 (by decide) ?_
      refine j_icmp_ne (pc := 20) F 52 dX7_whole_20 rfl (fun c => ?_) (fun c => ?_)
      · have h := iz_f c h
        have g1 := Option.some.inj h
        subst g1
        exact j_vret (pc := 52) F dX7_whole_52
      · have h := iz_t c h
        refine j_aload_n (pc := 23) (k0 := 0) F 0 rfl dX7_whole_23 ?_
        refine j_bipush (pc := 24) F (-33) dX7_whole_24 (by decide) ?_
        obtain ⟨i5, hi5, h⟩ := ob h
        refine j_callV0 (pc := 26) (ci := 7) (As := [.int (-33)]) (st := []) (e1 := 0) (es1 := 0) F clX7_235 cwX7_put rfl hth (ctX7_put G hi5) rfl rfl rfl rfl rfl rfl dX7_whole_26 ?_
        refine j_aload_n (pc := 29) (k0 := 0) F 0 rfl dX7_whole_29 ?_
        refine j_dup (pc := 30) F dX7_whole_30 rfl ?_
        obtain ⟨x6, hx6, h⟩ := ob h
        refine j_getI (pc := 31) F flX7_77 hx6 dX7_whole_31 ?_
        refine j_iconst (pc := 34) F 1 dX7_whole_34 (by decide) ?_
        refine j_isub (pc := 35) F dX7_whole_35 ?_
        obtain ⟨i7, hi7, h⟩ := ob h
        refine j_putI (pc := 36) F flX7_77 fp7_22 (fun z => by cases z) hi7 dX7_whole_36 ?_
        refine j_aload_n (pc := 39) (k0 := 0) F 0 rfl dX7_whole_39 ?_
        refine j_dup (pc := 40) F dX7_whole_40 rfl ?_
        obtain ⟨x8, hx8, h⟩ := ob h
        refine j_getI (pc := 41) F flX7_80 hx8 dX7_whole_41 ?_
        refine j_iconst (pc := 44) F 1 dX7_whole_44 (by decide) ?_
        refine j_isub (pc := 45) F dX7_whole_45 ?_
        obtain ⟨i9, hi9, h⟩ := ob h
        refine j_putI (pc := 46) F flX7_80 fp7_23 (fun z => by cases z) hi9 dX7_whole_46 ?_
        refine j_goto (pc := 49) F 0 dX7_whole_49 rfl ?_
        exact jbX7_whole_0 G F hth fuel _ h
theorem ctX7_whole (G : GT) {sh : SH} {I : IH} {L : LH} {n : Nat} {this : Nat} {I' : IH}  (hth : isO sh 7 this) (h : fX7_whole sh this I = some I') : Ct G yX7_whole cX7_whole 1 none 1 [.ref this] sh I L n (none) sh I' L n 0 0 := by
  refine ct_of (y := yX7_whole) (by decide +kernel) rfl (fun X F => ?_)
  exact jbX7_whole_0 G F hth 1000 _ h
