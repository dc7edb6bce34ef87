theorem dL_law_0 : decode cL_law 0 = .ok (.new 7, 3) := by decide +kernel
theorem dL_law_3 : decode cL_law 3 = .ok (.dup, 1) := by decide +kernel
theorem dL_law_4 : decode cL_law 4 = .ok (.invokespecial 9, 3) := by decide +kernel
theorem dL_law_7 : decode cL_law 7 = .ok (.astore_n 1, 1) := by decide +kernel
theorem dL_law_8 : decode cL_law 8 = .ok (.new 10, 3) := by decide +kernel
theorem dL_law_11 : decode cL_law 11 = .ok (.dup, 1) := by decide +kernel
theorem dL_law_12 : decode cL_law 12 = .ok (.invokespecial 12, 3) := by decide +kernel
theorem dL_law_15 : decode cL_law 15 = .ok (.astore_n 2, 1) := by decide +kernel
theorem dL_law_16 : decode cL_law 16 = .ok (.iconst 0, 1) := by decide +kernel
theorem dL_law_17 : decode cL_law 17 = .ok (.istore_n 3, 1) := by decide +kernel
theorem dL_law_18 : decode cL_law 18 = .ok (.iload_n 3, 1) := by decide +kernel
theorem dL_law_19 : decode cL_law 19 = .ok (.aload_n 0, 1) := by decide +kernel
theorem dL_law_20 : decode cL_law 20 = .ok (.arraylength, 1) := by decide +kernel
theorem dL_law_21 : decode cL_law 21 = .ok (.bipush 6, 2) := by decide +kernel
theorem dL_law_23 : decode cL_law 23 = .ok (.isub, 1) := by decide +kernel
theorem dL_law_24 : decode cL_law 24 = .ok (.if_icmp .gt 1223, 3) := by decide +kernel
theorem dL_law_27 : decode cL_law 27 = .ok (.aload_n 0, 1) := by decide +kernel
theorem dL_law_28 : decode cL_law 28 = .ok (.iload_n 3, 1) := by decide +kernel
theorem dL_law_29 : decode cL_law 29 = .ok (.iaload, 1) := by decide +kernel
theorem dL_law_30 : decode cL_law 30 = .ok (.bipush 63, 2) := by decide +kernel
theorem dL_law_32 : decode cL_law 32 = .ok (.iand, 1) := by decide +kernel
theorem dL_law_33 : decode cL_law 33 = .ok (.tableswitch 1208 0 32 #[147, 170, 203, 236, 249, 282, 305, 358, 391, 434, 457, 510, 543, 556, 589, 612, 665, 698, 732, 755, 768, 781, 804, 847, 860, 873, 916, 939, 972, 995, 1038, 1111, 1145], 147) := by decide +kernel
theorem dL_law_180 : decode cL_law 180 = .ok (.aload_n 1, 1) := by decide +kernel
theorem dL_law_181 : decode cL_law 181 = .ok (.aload_n 0, 1) := by decide +kernel
theorem dL_law_182 : decode cL_law 182 = .ok (.iload_n 3, 1) := by decide +kernel
theorem dL_law_183 : decode cL_law 183 = .ok (.iconst 1, 1) := by decide +kernel
theorem dL_law_184 : decode cL_law 184 = .ok (.iadd, 1) := by decide +kernel
theorem dL_law_185 : decode cL_law 185 = .ok (.iaload, 1) := by decide +kernel
theorem dL_law_186 : decode cL_law 186 = .ok (.invokevirtual 13, 3) := by decide +kernel
theorem dL_law_189 : decode cL_law 189 = .ok (.aload_n 2, 1) := by decide +kernel
theorem dL_law_190 : decode cL_law 190 = .ok (.aload_n 0, 1) := by decide +kernel
theorem dL_law_191 : decode cL_law 191 = .ok (.iload_n 3, 1) := by decide +kernel
theorem dL_law_192 : decode cL_law 192 = .ok (.iconst 1, 1) := by decide +kernel
theorem dL_law_193 : decode cL_law 193 = .ok (.iadd, 1) := by decide +kernel
theorem dL_law_194 : decode cL_law 194 = .ok (.iaload, 1) := by decide +kernel
theorem dL_law_195 : decode cL_law 195 = .ok (.invokevirtual 17, 3) := by decide +kernel
theorem dL_law_198 : decode cL_law 198 = .ok (.if_icmp .eq 1043, 3) := by decide +kernel
theorem dL_law_201 : decode cL_law 201 = .ok (.iconst 0, 1) := by decide +kernel
theorem dL_law_202 : decode cL_law 202 = .ok (.ireturn, 1) := by decide +kernel
theorem dL_law_203 : decode cL_law 203 = .ok (.aload_n 1, 1) := by decide +kernel
theorem dL_law_204 : decode cL_law 204 = .ok (.aload_n 0, 1) := by decide +kernel
theorem dL_law_205 : decode cL_law 205 = .ok (.iload_n 3, 1) := by decide +kernel
theorem dL_law_206 : decode cL_law 206 = .ok (.iconst 1, 1) := by decide +kernel
theorem dL_law_207 : decode cL_law 207 = .ok (.iadd, 1) := by decide +kernel
theorem dL_law_208 : decode cL_law 208 = .ok (.iaload, 1) := by decide +kernel
theorem dL_law_209 : decode cL_law 209 = .ok (.aload_n 0, 1) := by decide +kernel
theorem dL_law_210 : decode cL_law 210 = .ok (.iload_n 3, 1) := by decide +kernel
theorem dL_law_211 : decode cL_law 211 = .ok (.iconst 2, 1) := by decide +kernel
theorem dL_law_212 : decode cL_law 212 = .ok (.iadd, 1) := by decide +kernel
theorem dL_law_213 : decode cL_law 213 = .ok (.iaload, 1) := by decide +kernel
theorem dL_law_214 : decode cL_law 214 = .ok (.invokevirtual 18, 3) := by decide +kernel
theorem dL_law_217 : decode cL_law 217 = .ok (.aload_n 2, 1) := by decide +kernel
theorem dL_law_218 : decode cL_law 218 = .ok (.aload_n 0, 1) := by decide +kernel
theorem dL_law_219 : decode cL_law 219 = .ok (.iload_n 3, 1) := by decide +kernel
theorem dL_law_220 : decode cL_law 220 = .ok (.iconst 1, 1) := by decide +kernel
theorem dL_law_221 : decode cL_law 221 = .ok (.iadd, 1) := by decide +kernel
theorem dL_law_222 : decode cL_law 222 = .ok (.iaload, 1) := by decide +kernel
theorem dL_law_223 : decode cL_law 223 = .ok (.aload_n 0, 1) := by decide +kernel
theorem dL_law_224 : decode cL_law 224 = .ok (.iload_n 3, 1) := by decide +kernel
theorem dL_law_225 : decode cL_law 225 = .ok (.iconst 2, 1) := by decide +kernel
theorem dL_law_226 : decode cL_law 226 = .ok (.iadd, 1) := by decide +kernel
theorem dL_law_227 : decode cL_law 227 = .ok (.iaload, 1) := by decide +kernel
theorem dL_law_228 : decode cL_law 228 = .ok (.invokevirtual 22, 3) := by decide +kernel
theorem dL_law_231 : decode cL_law 231 = .ok (.if_icmp .eq 1010, 3) := by decide +kernel
theorem dL_law_234 : decode cL_law 234 = .ok (.iconst 0, 1) := by decide +kernel
theorem dL_law_235 : decode cL_law 235 = .ok (.ireturn, 1) := by decide +kernel
theorem dL_law_236 : decode cL_law 236 = .ok (.aload_n 1, 1) := by decide +kernel
theorem dL_law_237 : decode cL_law 237 = .ok (.aload_n 0, 1) := by decide +kernel
theorem dL_law_238 : decode cL_law 238 = .ok (.iload_n 3, 1) := by decide +kernel
theorem dL_law_239 : decode cL_law 239 = .ok (.iconst 1, 1) := by decide +kernel
theorem dL_law_240 : decode cL_law 240 = .ok (.iadd, 1) := by decide +kernel
theorem dL_law_241 : decode cL_law 241 = .ok (.iaload, 1) := by decide +kernel
theorem dL_law_242 : decode cL_law 242 = .ok (.aload_n 0, 1) := by decide +kernel
theorem dL_law_243 : decode cL_law 243 = .ok (.iload_n 3, 1) := by decide +kernel
theorem dL_law_244 : decode cL_law 244 = .ok (.iconst 2, 1) := by decide +kernel
theorem dL_law_245 : decode cL_law 245 = .ok (.iadd, 1) := by decide +kernel
theorem dL_law_246 : decode cL_law 246 = .ok (.iaload, 1) := by decide +kernel
theorem dL_law_247 : decode cL_law 247 = .ok (.invokevirtual 23, 3) := by decide +kernel
theorem dL_law_250 : decode cL_law 250 = .ok (.aload_n 2, 1) := by decide +kernel
theorem dL_law_251 : decode cL_law 251 = .ok (.aload_n 0, 1) := by decide +kernel
theorem dL_law_252 : decode cL_law 252 = .ok (.iload_n 3, 1) := by decide +kernel
theorem dL_law_253 : decode cL_law 253 = .ok (.iconst 1, 1) := by decide +kernel
theorem dL_law_254 : decode cL_law 254 = .ok (.iadd, 1) := by decide +kernel
theorem dL_law_255 : decode cL_law 255 = .ok (.iaload, 1) := by decide +kernel
theorem dL_law_256 : decode cL_law 256 = .ok (.aload_n 0, 1) := by decide +kernel
theorem dL_law_257 : decode cL_law 257 = .ok (.iload_n 3, 1) := by decide +kernel
theorem dL_law_258 : decode cL_law 258 = .ok (.iconst 2, 1) := by decide +kernel
theorem dL_law_259 : decode cL_law 259 = .ok (.iadd, 1) := by decide +kernel
theorem dL_law_260 : decode cL_law 260 = .ok (.iaload, 1) := by decide +kernel
theorem dL_law_261 : decode cL_law 261 = .ok (.invokevirtual 26, 3) := by decide +kernel
theorem dL_law_264 : decode cL_law 264 = .ok (.if_icmp .eq 977, 3) := by decide +kernel
theorem dL_law_267 : decode cL_law 267 = .ok (.iconst 0, 1) := by decide +kernel
theorem dL_law_268 : decode cL_law 268 = .ok (.ireturn, 1) := by decide +kernel
theorem dL_law_269 : decode cL_law 269 = .ok (.aload_n 1, 1) := by decide +kernel
theorem dL_law_270 : decode cL_law 270 = .ok (.invokevirtual 27, 3) := by decide +kernel
theorem dL_law_273 : decode cL_law 273 = .ok (.aload_n 2, 1) := by decide +kernel
theorem dL_law_274 : decode cL_law 274 = .ok (.invokevirtual 31, 3) := by decide +kernel
theorem dL_law_277 : decode cL_law 277 = .ok (.if_icmp .eq 964, 3) := by decide +kernel
theorem dL_law_280 : decode cL_law 280 = .ok (.iconst 0, 1) := by decide +kernel
theorem dL_law_281 : decode cL_law 281 = .ok (.ireturn, 1) := by decide +kernel
theorem dL_law_282 : decode cL_law 282 = .ok (.aload_n 1, 1) := by decide +kernel
theorem dL_law_283 : decode cL_law 283 = .ok (.aload_n 0, 1) := by decide +kernel
theorem dL_law_284 : decode cL_law 284 = .ok (.iload_n 3, 1) := by decide +kernel
theorem dL_law_285 : decode cL_law 285 = .ok (.iconst 1, 1) := by decide +kernel
theorem dL_law_286 : decode cL_law 286 = .ok (.iadd, 1) := by decide +kernel
theorem dL_law_287 : decode cL_law 287 = .ok (.iaload, 1) := by decide +kernel
theorem dL_law_288 : decode cL_law 288 = .ok (.aload_n 0, 1) := by decide +kernel
theorem dL_law_289 : decode cL_law 289 = .ok (.iload_n 3, 1) := by decide +kernel
theorem dL_law_290 : decode cL_law 290 = .ok (.iconst 2, 1) := by decide +kernel
theorem dL_law_291 : decode cL_law 291 = .ok (.iadd, 1) := by decide +kernel
theorem dL_law_292 : decode cL_law 292 = .ok (.iaload, 1) := by decide +kernel
theorem dL_law_293 : decode cL_law 293 = .ok (.invokevirtual 32, 3) := by decide +kernel
theorem dL_law_296 : decode cL_law 296 = .ok (.aload_n 2, 1) := by decide +kernel
theorem dL_law_297 : decode cL_law 297 = .ok (.aload_n 0, 1) := by decide +kernel
theorem dL_law_298 : decode cL_law 298 = .ok (.iload_n 3, 1) := by decide +kernel
theorem dL_law_299 : decode cL_law 299 = .ok (.iconst 1, 1) := by decide +kernel
theorem dL_law_300 : decode cL_law 300 = .ok (.iadd, 1) := by decide +kernel
theorem dL_law_301 : decode cL_law 301 = .ok (.iaload, 1) := by decide +kernel
theorem dL_law_302 : decode cL_law 302 = .ok (.aload_n 0, 1) := by decide +kernel
theorem dL_law_303 : decode cL_law 303 = .ok (.iload_n 3, 1) := by decide +kernel
theorem dL_law_304 : decode cL_law 304 = .ok (.iconst 2, 1) := by decide +kernel
theorem dL_law_305 : decode cL_law 305 = .ok (.iadd, 1) := by decide +kernel
theorem dL_law_306 : decode cL_law 306 = .ok (.iaload, 1) := by decide +kernel
theorem dL_law_307 : decode cL_law 307 = .ok (.invokevirtual 35, 3) := by decide +kernel
theorem dL_law_310 : decode cL_law 310 = .ok (.if_icmp .eq 931, 3) := by decide +kernel
theorem dL_law_313 : decode cL_law 313 = .ok (.iconst 0, 1) := by decide +kernel
theorem dL_law_314 : decode cL_law 314 = .ok (.ireturn, 1) := by decide +kernel
theorem dL_law_315 : decode cL_law 315 = .ok (.aload_n 1, 1) := by decide +kernel
theorem dL_law_316 : decode cL_law 316 = .ok (.aload_n 0, 1) := by decide +kernel
theorem dL_law_317 : decode cL_law 317 = .ok (.iload_n 3, 1) := by decide +kernel
theorem dL_law_318 : decode cL_law 318 = .ok (.iconst 1, 1) := by decide +kernel
theorem dL_law_319 : decode cL_law 319 = .ok (.iadd, 1) := by decide +kernel
theorem dL_law_320 : decode cL_law 320 = .ok (.iaload, 1) := by decide +kernel
theorem dL_law_321 : decode cL_law 321 = .ok (.invokevirtual 36, 3) := by decide +kernel
theorem dL_law_324 : decode cL_law 324 = .ok (.aload_n 2, 1) := by decide +kernel
theorem dL_law_325 : decode cL_law 325 = .ok (.aload_n 0, 1) := by decide +kernel
theorem dL_law_326 : decode cL_law 326 = .ok (.iload_n 3, 1) := by decide +kernel
theorem dL_law_327 : decode cL_law 327 = .ok (.iconst 1, 1) := by decide +kernel
theorem dL_law_328 : decode cL_law 328 = .ok (.iadd, 1) := by decide +kernel
theorem dL_law_329 : decode cL_law 329 = .ok (.iaload, 1) := by decide +kernel
theorem dL_law_330 : decode cL_law 330 = .ok (.invokevirtual 39, 3) := by decide +kernel
theorem dL_law_333 : decode cL_law 333 = .ok (.if_icmp .eq 908, 3) := by decide +kernel
theorem dL_law_336 : decode cL_law 336 = .ok (.iconst 0, 1) := by decide +kernel
theorem dL_law_337 : decode cL_law 337 = .ok (.ireturn, 1) := by decide +kernel
theorem dL_law_338 : decode cL_law 338 = .ok (.aload_n 1, 1) := by decide +kernel
theorem dL_law_339 : decode cL_law 339 = .ok (.aload_n 0, 1) := by decide +kernel
theorem dL_law_340 : decode cL_law 340 = .ok (.iload_n 3, 1) := by decide +kernel
theorem dL_law_341 : decode cL_law 341 = .ok (.iconst 1, 1) := by decide +kernel
theorem dL_law_342 : decode cL_law 342 = .ok (.iadd, 1) := by decide +kernel
theorem dL_law_343 : decode cL_law 343 = .ok (.iaload, 1) := by decide +kernel
theorem dL_law_344 : decode cL_law 344 = .ok (.aload_n 0, 1) := by decide +kernel
theorem dL_law_345 : decode cL_law 345 = .ok (.iload_n 3, 1) := by decide +kernel
theorem dL_law_346 : decode cL_law 346 = .ok (.iconst 2, 1) := by decide +kernel
theorem dL_law_347 : decode cL_law 347 = .ok (.iadd, 1) := by decide +kernel
theorem dL_law_348 : decode cL_law 348 = .ok (.iaload, 1) := by decide +kernel
theorem dL_law_349 : decode cL_law 349 = .ok (.aload_n 0, 1) := by decide +kernel
theorem dL_law_350 : decode cL_law 350 = .ok (.iload_n 3, 1) := by decide +kernel
theorem dL_law_351 : decode cL_law 351 = .ok (.iconst 3, 1) := by decide +kernel
theorem dL_law_352 : decode cL_law 352 = .ok (.iadd, 1) := by decide +kernel
theorem dL_law_353 : decode cL_law 353 = .ok (.iaload, 1) := by decide +kernel
theorem dL_law_354 : decode cL_law 354 = .ok (.aload_n 0, 1) := by decide +kernel
theorem dL_law_355 : decode cL_law 355 = .ok (.iload_n 3, 1) := by decide +kernel
theorem dL_law_356 : decode cL_law 356 = .ok (.iconst 4, 1) := by decide +kernel
theorem dL_law_357 : decode cL_law 357 = .ok (.iadd, 1) := by decide +kernel
theorem dL_law_358 : decode cL_law 358 = .ok (.iaload, 1) := by decide +kernel
theorem dL_law_359 : decode cL_law 359 = .ok (.invokevirtual 40, 3) := by decide +kernel
theorem dL_law_362 : decode cL_law 362 = .ok (.aload_n 2, 1) := by decide +kernel
theorem dL_law_363 : decode cL_law 363 = .ok (.aload_n 0, 1) := by decide +kernel
theorem dL_law_364 : decode cL_law 364 = .ok (.iload_n 3, 1) := by decide +kernel
theorem dL_law_365 : decode cL_law 365 = .ok (.iconst 1, 1) := by decide +kernel
theorem dL_law_366 : decode cL_law 366 = .ok (.iadd, 1) := by decide +kernel
theorem dL_law_367 : decode cL_law 367 = .ok (.iaload, 1) := by decide +kernel
theorem dL_law_368 : decode cL_law 368 = .ok (.aload_n 0, 1) := by decide +kernel
theorem dL_law_369 : decode cL_law 369 = .ok (.iload_n 3, 1) := by decide +kernel
theorem dL_law_370 : decode cL_law 370 = .ok (.iconst 2, 1) := by decide +kernel
theorem dL_law_371 : decode cL_law 371 = .ok (.iadd, 1) := by decide +kernel
theorem dL_law_372 : decode cL_law 372 = .ok (.iaload, 1) := by decide +kernel
theorem dL_law_373 : decode cL_law 373 = .ok (.aload_n 0, 1) := by decide +kernel
theorem dL_law_374 : decode cL_law 374 = .ok (.iload_n 3, 1) := by decide +kernel
theorem dL_law_375 : decode cL_law 375 = .ok (.iconst 3, 1) := by decide +kernel
theorem dL_law_376 : decode cL_law 376 = .ok (.iadd, 1) := by decide +kernel
theorem dL_law_377 : decode cL_law 377 = .ok (.iaload, 1) := by decide +kernel
theorem dL_law_378 : decode cL_law 378 = .ok (.aload_n 0, 1) := by decide +kernel
theorem dL_law_379 : decode cL_law 379 = .ok (.iload_n 3, 1) := by decide +kernel
theorem dL_law_380 : decode cL_law 380 = .ok (.iconst 4, 1) := by decide +kernel
theorem dL_law_381 : decode cL_law 381 = .ok (.iadd, 1) := by decide +kernel
theorem dL_law_382 : decode cL_law 382 = .ok (.iaload, 1) := by decide +kernel
theorem dL_law_383 : decode cL_law 383 = .ok (.invokevirtual 44, 3) := by decide +kernel
theorem dL_law_386 : decode cL_law 386 = .ok (.if_icmp .eq 855, 3) := by decide +kernel
theorem dL_law_389 : decode cL_law 389 = .ok (.iconst 0, 1) := by decide +kernel
theorem dL_law_390 : decode cL_law 390 = .ok (.ireturn, 1) := by decide +kernel
theorem dL_law_391 : decode cL_law 391 = .ok (.aload_n 1, 1) := by decide +kernel
theorem dL_law_392 : decode cL_law 392 = .ok (.aload_n 0, 1) := by decide +kernel
theorem dL_law_393 : decode cL_law 393 = .ok (.iload_n 3, 1) := by decide +kernel
theorem dL_law_394 : decode cL_law 394 = .ok (.iconst 1, 1) := by decide +kernel
theorem dL_law_395 : decode cL_law 395 = .ok (.iadd, 1) := by decide +kernel
theorem dL_law_396 : decode cL_law 396 = .ok (.iaload, 1) := by decide +kernel
theorem dL_law_397 : decode cL_law 397 = .ok (.aload_n 0, 1) := by decide +kernel
theorem dL_law_398 : decode cL_law 398 = .ok (.iload_n 3, 1) := by decide +kernel
theorem dL_law_399 : decode cL_law 399 = .ok (.iconst 2, 1) := by decide +kernel
theorem dL_law_400 : decode cL_law 400 = .ok (.iadd, 1) := by decide +kernel
theorem dL_law_401 : decode cL_law 401 = .ok (.iaload, 1) := by decide +kernel
theorem dL_law_402 : decode cL_law 402 = .ok (.invokevirtual 45, 3) := by decide +kernel
theorem dL_law_405 : decode cL_law 405 = .ok (.aload_n 2, 1) := by decide +kernel
theorem dL_law_406 : decode cL_law 406 = .ok (.aload_n 0, 1) := by decide +kernel
theorem dL_law_407 : decode cL_law 407 = .ok (.iload_n 3, 1) := by decide +kernel
theorem dL_law_408 : decode cL_law 408 = .ok (.iconst 1, 1) := by decide +kernel
theorem dL_law_409 : decode cL_law 409 = .ok (.iadd, 1) := by decide +kernel
theorem dL_law_410 : decode cL_law 410 = .ok (.iaload, 1) := by decide +kernel
theorem dL_law_411 : decode cL_law 411 = .ok (.aload_n 0, 1) := by decide +kernel
theorem dL_law_412 : decode cL_law 412 = .ok (.iload_n 3, 1) := by decide +kernel
theorem dL_law_413 : decode cL_law 413 = .ok (.iconst 2, 1) := by decide +kernel
theorem dL_law_414 : decode cL_law 414 = .ok (.iadd, 1) := by decide +kernel
theorem dL_law_415 : decode cL_law 415 = .ok (.iaload, 1) := by decide +kernel
theorem dL_law_416 : decode cL_law 416 = .ok (.invokevirtual 48, 3) := by decide +kernel
theorem dL_law_419 : decode cL_law 419 = .ok (.if_icmp .eq 822, 3) := by decide +kernel
theorem dL_law_422 : decode cL_law 422 = .ok (.iconst 0, 1) := by decide +kernel
theorem dL_law_423 : decode cL_law 423 = .ok (.ireturn, 1) := by decide +kernel
theorem dL_law_424 : decode cL_law 424 = .ok (.aload_n 1, 1) := by decide +kernel
theorem dL_law_425 : decode cL_law 425 = .ok (.aload_n 0, 1) := by decide +kernel
theorem dL_law_426 : decode cL_law 426 = .ok (.iload_n 3, 1) := by decide +kernel
theorem dL_law_427 : decode cL_law 427 = .ok (.iconst 1, 1) := by decide +kernel
theorem dL_law_428 : decode cL_law 428 = .ok (.iadd, 1) := by decide +kernel
theorem dL_law_429 : decode cL_law 429 = .ok (.iaload, 1) := by decide +kernel
theorem dL_law_430 : decode cL_law 430 = .ok (.aload_n 0, 1) := by decide +kernel
theorem dL_law_431 : decode cL_law 431 = .ok (.iload_n 3, 1) := by decide +kernel
theorem dL_law_432 : decode cL_law 432 = .ok (.iconst 2, 1) := by decide +kernel
theorem dL_law_433 : decode cL_law 433 = .ok (.iadd, 1) := by decide +kernel
theorem dL_law_434 : decode cL_law 434 = .ok (.iaload, 1) := by decide +kernel
theorem dL_law_435 : decode cL_law 435 = .ok (.aload_n 0, 1) := by decide +kernel
theorem dL_law_436 : decode cL_law 436 = .ok (.iload_n 3, 1) := by decide +kernel
theorem dL_law_437 : decode cL_law 437 = .ok (.iconst 3, 1) := by decide +kernel
theorem dL_law_438 : decode cL_law 438 = .ok (.iadd, 1) := by decide +kernel
theorem dL_law_439 : decode cL_law 439 = .ok (.iaload, 1) := by decide +kernel
theorem dL_law_440 : decode cL_law 440 = .ok (.invokevirtual 49, 3) := by decide +kernel
theorem dL_law_443 : decode cL_law 443 = .ok (.aload_n 2, 1) := by decide +kernel
theorem dL_law_444 : decode cL_law 444 = .ok (.aload_n 0, 1) := by decide +kernel
theorem dL_law_445 : decode cL_law 445 = .ok (.iload_n 3, 1) := by decide +kernel
theorem dL_law_446 : decode cL_law 446 = .ok (.iconst 1, 1) := by decide +kernel
theorem dL_law_447 : decode cL_law 447 = .ok (.iadd, 1) := by decide +kernel
theorem dL_law_448 : decode cL_law 448 = .ok (.iaload, 1) := by decide +kernel
theorem dL_law_449 : decode cL_law 449 = .ok (.aload_n 0, 1) := by decide +kernel
theorem dL_law_450 : decode cL_law 450 = .ok (.iload_n 3, 1) := by decide +kernel
theorem dL_law_451 : decode cL_law 451 = .ok (.iconst 2, 1) := by decide +kernel
theorem dL_law_452 : decode cL_law 452 = .ok (.iadd, 1) := by decide +kernel
theorem dL_law_453 : decode cL_law 453 = .ok (.iaload, 1) := by decide +kernel
theorem dL_law_454 : decode cL_law 454 = .ok (.aload_n 0, 1) := by decide +kernel
theorem dL_law_455 : decode cL_law 455 = .ok (.iload_n 3, 1) := by decide +kernel
theorem dL_law_456 : decode cL_law 456 = .ok (.iconst 3, 1) := by decide +kernel
theorem dL_law_457 : decode cL_law 457 = .ok (.iadd, 1) := by decide +kernel
theorem dL_law_458 : decode cL_law 458 = .ok (.iaload, 1) := by decide +kernel
theorem dL_law_459 : decode cL_law 459 = .ok (.invokevirtual 53, 3) := by decide +kernel
theorem dL_law_462 : decode cL_law 462 = .ok (.if_icmp .eq 779, 3) := by decide +kernel
theorem dL_law_465 : decode cL_law 465 = .ok (.iconst 0, 1) := by decide +kernel
theorem dL_law_466 : decode cL_law 466 = .ok (.ireturn, 1) := by decide +kernel
theorem dL_law_467 : decode cL_law 467 = .ok (.aload_n 1, 1) := by decide +kernel
theorem dL_law_468 : decode cL_law 468 = .ok (.aload_n 0, 1) := by decide +kernel
theorem dL_law_469 : decode cL_law 469 = .ok (.iload_n 3, 1) := by decide +kernel
theorem dL_law_470 : decode cL_law 470 = .ok (.iconst 1, 1) := by decide +kernel
theorem dL_law_471 : decode cL_law 471 = .ok (.iadd, 1) := by decide +kernel
theorem dL_law_472 : decode cL_law 472 = .ok (.iaload, 1) := by decide +kernel
theorem dL_law_473 : decode cL_law 473 = .ok (.invokevirtual 54, 3) := by decide +kernel
theorem dL_law_476 : decode cL_law 476 = .ok (.aload_n 2, 1) := by decide +kernel
theorem dL_law_477 : decode cL_law 477 = .ok (.aload_n 0, 1) := by decide +kernel
theorem dL_law_478 : decode cL_law 478 = .ok (.iload_n 3, 1) := by decide +kernel
theorem dL_law_479 : decode cL_law 479 = .ok (.iconst 1, 1) := by decide +kernel
theorem dL_law_480 : decode cL_law 480 = .ok (.iadd, 1) := by decide +kernel
theorem dL_law_481 : decode cL_law 481 = .ok (.iaload, 1) := by decide +kernel
theorem dL_law_482 : decode cL_law 482 = .ok (.invokevirtual 57, 3) := by decide +kernel
theorem dL_law_485 : decode cL_law 485 = .ok (.if_icmp .eq 756, 3) := by decide +kernel
theorem dL_law_488 : decode cL_law 488 = .ok (.iconst 0, 1) := by decide +kernel
theorem dL_law_489 : decode cL_law 489 = .ok (.ireturn, 1) := by decide +kernel
theorem dL_law_490 : decode cL_law 490 = .ok (.aload_n 1, 1) := by decide +kernel
theorem dL_law_491 : decode cL_law 491 = .ok (.aload_n 0, 1) := by decide +kernel
theorem dL_law_492 : decode cL_law 492 = .ok (.iload_n 3, 1) := by decide +kernel
theorem dL_law_493 : decode cL_law 493 = .ok (.iconst 1, 1) := by decide +kernel
theorem dL_law_494 : decode cL_law 494 = .ok (.iadd, 1) := by decide +kernel
theorem dL_law_495 : decode cL_law 495 = .ok (.iaload, 1) := by decide +kernel
theorem dL_law_496 : decode cL_law 496 = .ok (.aload_n 0, 1) := by decide +kernel
theorem dL_law_497 : decode cL_law 497 = .ok (.iload_n 3, 1) := by decide +kernel
theorem dL_law_498 : decode cL_law 498 = .ok (.iconst 2, 1) := by decide +kernel
theorem dL_law_499 : decode cL_law 499 = .ok (.iadd, 1) := by decide +kernel
theorem dL_law_500 : decode cL_law 500 = .ok (.iaload, 1) := by decide +kernel
theorem dL_law_501 : decode cL_law 501 = .ok (.aload_n 0, 1) := by decide +kernel
theorem dL_law_502 : decode cL_law 502 = .ok (.iload_n 3, 1) := by decide +kernel
theorem dL_law_503 : decode cL_law 503 = .ok (.iconst 3, 1) := by decide +kernel
theorem dL_law_504 : decode cL_law 504 = .ok (.iadd, 1) := by decide +kernel
theorem dL_law_505 : decode cL_law 505 = .ok (.iaload, 1) := by decide +kernel
theorem dL_law_506 : decode cL_law 506 = .ok (.aload_n 0, 1) := by decide +kernel
theorem dL_law_507 : decode cL_law 507 = .ok (.iload_n 3, 1) := by decide +kernel
theorem dL_law_508 : decode cL_law 508 = .ok (.iconst 4, 1) := by decide +kernel
theorem dL_law_509 : decode cL_law 509 = .ok (.iadd, 1) := by decide +kernel
theorem dL_law_510 : decode cL_law 510 = .ok (.iaload, 1) := by decide +kernel
theorem dL_law_511 : decode cL_law 511 = .ok (.invokevirtual 58, 3) := by decide +kernel
theorem dL_law_514 : decode cL_law 514 = .ok (.aload_n 2, 1) := by decide +kernel
theorem dL_law_515 : decode cL_law 515 = .ok (.aload_n 0, 1) := by decide +kernel
theorem dL_law_516 : decode cL_law 516 = .ok (.iload_n 3, 1) := by decide +kernel
theorem dL_law_517 : decode cL_law 517 = .ok (.iconst 1, 1) := by decide +kernel
theorem dL_law_518 : decode cL_law 518 = .ok (.iadd, 1) := by decide +kernel
theorem dL_law_519 : decode cL_law 519 = .ok (.iaload, 1) := by decide +kernel
theorem dL_law_520 : decode cL_law 520 = .ok (.aload_n 0, 1) := by decide +kernel
theorem dL_law_521 : decode cL_law 521 = .ok (.iload_n 3, 1) := by decide +kernel
theorem dL_law_522 : decode cL_law 522 = .ok (.iconst 2, 1) := by decide +kernel
theorem dL_law_523 : decode cL_law 523 = .ok (.iadd, 1) := by decide +kernel
theorem dL_law_524 : decode cL_law 524 = .ok (.iaload, 1) := by decide +kernel
theorem dL_law_525 : decode cL_law 525 = .ok (.aload_n 0, 1) := by decide +kernel
theorem dL_law_526 : decode cL_law 526 = .ok (.iload_n 3, 1) := by decide +kernel
theorem dL_law_527 : decode cL_law 527 = .ok (.iconst 3, 1) := by decide +kernel
theorem dL_law_528 : decode cL_law 528 = .ok (.iadd, 1) := by decide +kernel
theorem dL_law_529 : decode cL_law 529 = .ok (.iaload, 1) := by decide +kernel
theorem dL_law_530 : decode cL_law 530 = .ok (.aload_n 0, 1) := by decide +kernel
theorem dL_law_531 : decode cL_law 531 = .ok (.iload_n 3, 1) := by decide +kernel
theorem dL_law_532 : decode cL_law 532 = .ok (.iconst 4, 1) := by decide +kernel
theorem dL_law_533 : decode cL_law 533 = .ok (.iadd, 1) := by decide +kernel
theorem dL_law_534 : decode cL_law 534 = .ok (.iaload, 1) := by decide +kernel
theorem dL_law_535 : decode cL_law 535 = .ok (.invokevirtual 61, 3) := by decide +kernel
theorem dL_law_538 : decode cL_law 538 = .ok (.if_icmp .eq 703, 3) := by decide +kernel
theorem dL_law_541 : decode cL_law 541 = .ok (.iconst 0, 1) := by decide +kernel
theorem dL_law_542 : decode cL_law 542 = .ok (.ireturn, 1) := by decide +kernel
theorem dL_law_543 : decode cL_law 543 = .ok (.aload_n 1, 1) := by decide +kernel
theorem dL_law_544 : decode cL_law 544 = .ok (.aload_n 0, 1) := by decide +kernel
theorem dL_law_545 : decode cL_law 545 = .ok (.iload_n 3, 1) := by decide +kernel
theorem dL_law_546 : decode cL_law 546 = .ok (.iconst 1, 1) := by decide +kernel
theorem dL_law_547 : decode cL_law 547 = .ok (.iadd, 1) := by decide +kernel
theorem dL_law_548 : decode cL_law 548 = .ok (.iaload, 1) := by decide +kernel
theorem dL_law_549 : decode cL_law 549 = .ok (.aload_n 0, 1) := by decide +kernel
theorem dL_law_550 : decode cL_law 550 = .ok (.iload_n 3, 1) := by decide +kernel
theorem dL_law_551 : decode cL_law 551 = .ok (.iconst 2, 1) := by decide +kernel
theorem dL_law_552 : decode cL_law 552 = .ok (.iadd, 1) := by decide +kernel
theorem dL_law_553 : decode cL_law 553 = .ok (.iaload, 1) := by decide +kernel
theorem dL_law_554 : decode cL_law 554 = .ok (.invokevirtual 62, 3) := by decide +kernel
theorem dL_law_557 : decode cL_law 557 = .ok (.aload_n 2, 1) := by decide +kernel
theorem dL_law_558 : decode cL_law 558 = .ok (.aload_n 0, 1) := by decide +kernel
theorem dL_law_559 : decode cL_law 559 = .ok (.iload_n 3, 1) := by decide +kernel
theorem dL_law_560 : decode cL_law 560 = .ok (.iconst 1, 1) := by decide +kernel
theorem dL_law_561 : decode cL_law 561 = .ok (.iadd, 1) := by decide +kernel
theorem dL_law_562 : decode cL_law 562 = .ok (.iaload, 1) := by decide +kernel
theorem dL_law_563 : decode cL_law 563 = .ok (.aload_n 0, 1) := by decide +kernel
theorem dL_law_564 : decode cL_law 564 = .ok (.iload_n 3, 1) := by decide +kernel
theorem dL_law_565 : decode cL_law 565 = .ok (.iconst 2, 1) := by decide +kernel
theorem dL_law_566 : decode cL_law 566 = .ok (.iadd, 1) := by decide +kernel
theorem dL_law_567 : decode cL_law 567 = .ok (.iaload, 1) := by decide +kernel
theorem dL_law_568 : decode cL_law 568 = .ok (.invokevirtual 65, 3) := by decide +kernel
theorem dL_law_571 : decode cL_law 571 = .ok (.if_icmp .eq 670, 3) := by decide +kernel
theorem dL_law_574 : decode cL_law 574 = .ok (.iconst 0, 1) := by decide +kernel
theorem dL_law_575 : decode cL_law 575 = .ok (.ireturn, 1) := by decide +kernel
theorem dL_law_576 : decode cL_law 576 = .ok (.aload_n 1, 1) := by decide +kernel
theorem dL_law_577 : decode cL_law 577 = .ok (.invokevirtual 66, 3) := by decide +kernel
theorem dL_law_580 : decode cL_law 580 = .ok (.aload_n 2, 1) := by decide +kernel
theorem dL_law_581 : decode cL_law 581 = .ok (.invokevirtual 69, 3) := by decide +kernel
theorem dL_law_584 : decode cL_law 584 = .ok (.if_icmp .eq 657, 3) := by decide +kernel
theorem dL_law_587 : decode cL_law 587 = .ok (.iconst 0, 1) := by decide +kernel
theorem dL_law_588 : decode cL_law 588 = .ok (.ireturn, 1) := by decide +kernel
theorem dL_law_589 : decode cL_law 589 = .ok (.aload_n 1, 1) := by decide +kernel
theorem dL_law_590 : decode cL_law 590 = .ok (.aload_n 0, 1) := by decide +kernel
theorem dL_law_591 : decode cL_law 591 = .ok (.iload_n 3, 1) := by decide +kernel
theorem dL_law_592 : decode cL_law 592 = .ok (.iconst 1, 1) := by decide +kernel
theorem dL_law_593 : decode cL_law 593 = .ok (.iadd, 1) := by decide +kernel
theorem dL_law_594 : decode cL_law 594 = .ok (.iaload, 1) := by decide +kernel
theorem dL_law_595 : decode cL_law 595 = .ok (.aload_n 0, 1) := by decide +kernel
theorem dL_law_596 : decode cL_law 596 = .ok (.iload_n 3, 1) := by decide +kernel
theorem dL_law_597 : decode cL_law 597 = .ok (.iconst 2, 1) := by decide +kernel
theorem dL_law_598 : decode cL_law 598 = .ok (.iadd, 1) := by decide +kernel
theorem dL_law_599 : decode cL_law 599 = .ok (.iaload, 1) := by decide +kernel
theorem dL_law_600 : decode cL_law 600 = .ok (.invokevirtual 70, 3) := by decide +kernel
theorem dL_law_603 : decode cL_law 603 = .ok (.aload_n 2, 1) := by decide +kernel
theorem dL_law_604 : decode cL_law 604 = .ok (.aload_n 0, 1) := by decide +kernel
theorem dL_law_605 : decode cL_law 605 = .ok (.iload_n 3, 1) := by decide +kernel
theorem dL_law_606 : decode cL_law 606 = .ok (.iconst 1, 1) := by decide +kernel
theorem dL_law_607 : decode cL_law 607 = .ok (.iadd, 1) := by decide +kernel
theorem dL_law_608 : decode cL_law 608 = .ok (.iaload, 1) := by decide +kernel
theorem dL_law_609 : decode cL_law 609 = .ok (.aload_n 0, 1) := by decide +kernel
theorem dL_law_610 : decode cL_law 610 = .ok (.iload_n 3, 1) := by decide +kernel
theorem dL_law_611 : decode cL_law 611 = .ok (.iconst 2, 1) := by decide +kernel
theorem dL_law_612 : decode cL_law 612 = .ok (.iadd, 1) := by decide +kernel
theorem dL_law_613 : decode cL_law 613 = .ok (.iaload, 1) := by decide +kernel
theorem dL_law_614 : decode cL_law 614 = .ok (.invokevirtual 73, 3) := by decide +kernel
theorem dL_law_617 : decode cL_law 617 = .ok (.if_icmp .eq 624, 3) := by decide +kernel
theorem dL_law_620 : decode cL_law 620 = .ok (.iconst 0, 1) := by decide +kernel
theorem dL_law_621 : decode cL_law 621 = .ok (.ireturn, 1) := by decide +kernel
theorem dL_law_622 : decode cL_law 622 = .ok (.aload_n 1, 1) := by decide +kernel
theorem dL_law_623 : decode cL_law 623 = .ok (.aload_n 0, 1) := by decide +kernel
theorem dL_law_624 : decode cL_law 624 = .ok (.iload_n 3, 1) := by decide +kernel
theorem dL_law_625 : decode cL_law 625 = .ok (.iconst 1, 1) := by decide +kernel
theorem dL_law_626 : decode cL_law 626 = .ok (.iadd, 1) := by decide +kernel
theorem dL_law_627 : decode cL_law 627 = .ok (.iaload, 1) := by decide +kernel
theorem dL_law_628 : decode cL_law 628 = .ok (.invokevirtual 74, 3) := by decide +kernel
theorem dL_law_631 : decode cL_law 631 = .ok (.aload_n 2, 1) := by decide +kernel
theorem dL_law_632 : decode cL_law 632 = .ok (.aload_n 0, 1) := by decide +kernel
theorem dL_law_633 : decode cL_law 633 = .ok (.iload_n 3, 1) := by decide +kernel
theorem dL_law_634 : decode cL_law 634 = .ok (.iconst 1, 1) := by decide +kernel
theorem dL_law_635 : decode cL_law 635 = .ok (.iadd, 1) := by decide +kernel
theorem dL_law_636 : decode cL_law 636 = .ok (.iaload, 1) := by decide +kernel
theorem dL_law_637 : decode cL_law 637 = .ok (.invokevirtual 77, 3) := by decide +kernel
theorem dL_law_640 : decode cL_law 640 = .ok (.if_icmp .eq 601, 3) := by decide +kernel
theorem dL_law_643 : decode cL_law 643 = .ok (.iconst 0, 1) := by decide +kernel
theorem dL_law_644 : decode cL_law 644 = .ok (.ireturn, 1) := by decide +kernel
theorem dL_law_645 : decode cL_law 645 = .ok (.aload_n 1, 1) := by decide +kernel
theorem dL_law_646 : decode cL_law 646 = .ok (.aload_n 0, 1) := by decide +kernel
theorem dL_law_647 : decode cL_law 647 = .ok (.iload_n 3, 1) := by decide +kernel
theorem dL_law_648 : decode cL_law 648 = .ok (.iconst 1, 1) := by decide +kernel
theorem dL_law_649 : decode cL_law 649 = .ok (.iadd, 1) := by decide +kernel
theorem dL_law_650 : decode cL_law 650 = .ok (.iaload, 1) := by decide +kernel
theorem dL_law_651 : decode cL_law 651 = .ok (.aload_n 0, 1) := by decide +kernel
theorem dL_law_652 : decode cL_law 652 = .ok (.iload_n 3, 1) := by decide +kernel
theorem dL_law_653 : decode cL_law 653 = .ok (.iconst 2, 1) := by decide +kernel
theorem dL_law_654 : decode cL_law 654 = .ok (.iadd, 1) := by decide +kernel
theorem dL_law_655 : decode cL_law 655 = .ok (.iaload, 1) := by decide +kernel
theorem dL_law_656 : decode cL_law 656 = .ok (.aload_n 0, 1) := by decide +kernel
theorem dL_law_657 : decode cL_law 657 = .ok (.iload_n 3, 1) := by decide +kernel
theorem dL_law_658 : decode cL_law 658 = .ok (.iconst 3, 1) := by decide +kernel
theorem dL_law_659 : decode cL_law 659 = .ok (.iadd, 1) := by decide +kernel
theorem dL_law_660 : decode cL_law 660 = .ok (.iaload, 1) := by decide +kernel
theorem dL_law_661 : decode cL_law 661 = .ok (.aload_n 0, 1) := by decide +kernel
theorem dL_law_662 : decode cL_law 662 = .ok (.iload_n 3, 1) := by decide +kernel
theorem dL_law_663 : decode cL_law 663 = .ok (.iconst 4, 1) := by decide +kernel
theorem dL_law_664 : decode cL_law 664 = .ok (.iadd, 1) := by decide +kernel
theorem dL_law_665 : decode cL_law 665 = .ok (.iaload, 1) := by decide +kernel
theorem dL_law_666 : decode cL_law 666 = .ok (.invokevirtual 78, 3) := by decide +kernel
theorem dL_law_669 : decode cL_law 669 = .ok (.aload_n 2, 1) := by decide +kernel
theorem dL_law_670 : decode cL_law 670 = .ok (.aload_n 0, 1) := by decide +kernel
theorem dL_law_671 : decode cL_law 671 = .ok (.iload_n 3, 1) := by decide +kernel
theorem dL_law_672 : decode cL_law 672 = .ok (.iconst 1, 1) := by decide +kernel
theorem dL_law_673 : decode cL_law 673 = .ok (.iadd, 1) := by decide +kernel
theorem dL_law_674 : decode cL_law 674 = .ok (.iaload, 1) := by decide +kernel
theorem dL_law_675 : decode cL_law 675 = .ok (.aload_n 0, 1) := by decide +kernel
theorem dL_law_676 : decode cL_law 676 = .ok (.iload_n 3, 1) := by decide +kernel
theorem dL_law_677 : decode cL_law 677 = .ok (.iconst 2, 1) := by decide +kernel
theorem dL_law_678 : decode cL_law 678 = .ok (.iadd, 1) := by decide +kernel
theorem dL_law_679 : decode cL_law 679 = .ok (.iaload, 1) := by decide +kernel
theorem dL_law_680 : decode cL_law 680 = .ok (.aload_n 0, 1) := by decide +kernel
theorem dL_law_681 : decode cL_law 681 = .ok (.iload_n 3, 1) := by decide +kernel
theorem dL_law_682 : decode cL_law 682 = .ok (.iconst 3, 1) := by decide +kernel
theorem dL_law_683 : decode cL_law 683 = .ok (.iadd, 1) := by decide +kernel
theorem dL_law_684 : decode cL_law 684 = .ok (.iaload, 1) := by decide +kernel
theorem dL_law_685 : decode cL_law 685 = .ok (.aload_n 0, 1) := by decide +kernel
theorem dL_law_686 : decode cL_law 686 = .ok (.iload_n 3, 1) := by decide +kernel
theorem dL_law_687 : decode cL_law 687 = .ok (.iconst 4, 1) := by decide +kernel
theorem dL_law_688 : decode cL_law 688 = .ok (.iadd, 1) := by decide +kernel
theorem dL_law_689 : decode cL_law 689 = .ok (.iaload, 1) := by decide +kernel
theorem dL_law_690 : decode cL_law 690 = .ok (.invokevirtual 81, 3) := by decide +kernel
theorem dL_law_693 : decode cL_law 693 = .ok (.if_icmp .eq 548, 3) := by decide +kernel
theorem dL_law_696 : decode cL_law 696 = .ok (.iconst 0, 1) := by decide +kernel
theorem dL_law_697 : decode cL_law 697 = .ok (.ireturn, 1) := by decide +kernel
theorem dL_law_698 : decode cL_law 698 = .ok (.aload_n 1, 1) := by decide +kernel
theorem dL_law_699 : decode cL_law 699 = .ok (.aload_n 0, 1) := by decide +kernel
theorem dL_law_700 : decode cL_law 700 = .ok (.iload_n 3, 1) := by decide +kernel
theorem dL_law_701 : decode cL_law 701 = .ok (.iconst 1, 1) := by decide +kernel
theorem dL_law_702 : decode cL_law 702 = .ok (.iadd, 1) := by decide +kernel
theorem dL_law_703 : decode cL_law 703 = .ok (.iaload, 1) := by decide +kernel
theorem dL_law_704 : decode cL_law 704 = .ok (.aload_n 0, 1) := by decide +kernel
theorem dL_law_705 : decode cL_law 705 = .ok (.iload_n 3, 1) := by decide +kernel
theorem dL_law_706 : decode cL_law 706 = .ok (.iconst 2, 1) := by decide +kernel
theorem dL_law_707 : decode cL_law 707 = .ok (.iadd, 1) := by decide +kernel
theorem dL_law_708 : decode cL_law 708 = .ok (.iaload, 1) := by decide +kernel
theorem dL_law_709 : decode cL_law 709 = .ok (.invokevirtual 82, 3) := by decide +kernel
theorem dL_law_712 : decode cL_law 712 = .ok (.aload_n 2, 1) := by decide +kernel
theorem dL_law_713 : decode cL_law 713 = .ok (.aload_n 0, 1) := by decide +kernel
theorem dL_law_714 : decode cL_law 714 = .ok (.iload_n 3, 1) := by decide +kernel
theorem dL_law_715 : decode cL_law 715 = .ok (.iconst 1, 1) := by decide +kernel
theorem dL_law_716 : decode cL_law 716 = .ok (.iadd, 1) := by decide +kernel
theorem dL_law_717 : decode cL_law 717 = .ok (.iaload, 1) := by decide +kernel
theorem dL_law_718 : decode cL_law 718 = .ok (.aload_n 0, 1) := by decide +kernel
theorem dL_law_719 : decode cL_law 719 = .ok (.iload_n 3, 1) := by decide +kernel
theorem dL_law_720 : decode cL_law 720 = .ok (.iconst 2, 1) := by decide +kernel
theorem dL_law_721 : decode cL_law 721 = .ok (.iadd, 1) := by decide +kernel
theorem dL_law_722 : decode cL_law 722 = .ok (.iaload, 1) := by decide +kernel
theorem dL_law_723 : decode cL_law 723 = .ok (.invokevirtual 85, 3) := by decide +kernel
theorem dL_law_726 : decode cL_law 726 = .ok (.if_icmp .eq 515, 3) := by decide +kernel
theorem dL_law_729 : decode cL_law 729 = .ok (.iconst 0, 1) := by decide +kernel
theorem dL_law_730 : decode cL_law 730 = .ok (.ireturn, 1) := by decide +kernel
theorem dL_law_731 : decode cL_law 731 = .ok (.aload_n 1, 1) := by decide +kernel
theorem dL_law_732 : decode cL_law 732 = .ok (.aload_n 0, 1) := by decide +kernel
theorem dL_law_733 : decode cL_law 733 = .ok (.iload_n 3, 1) := by decide +kernel
theorem dL_law_734 : decode cL_law 734 = .ok (.iconst 1, 1) := by decide +kernel
theorem dL_law_735 : decode cL_law 735 = .ok (.iadd, 1) := by decide +kernel
theorem dL_law_736 : decode cL_law 736 = .ok (.iaload, 1) := by decide +kernel
theorem dL_law_737 : decode cL_law 737 = .ok (.aload_n 0, 1) := by decide +kernel
theorem dL_law_738 : decode cL_law 738 = .ok (.iload_n 3, 1) := by decide +kernel
theorem dL_law_739 : decode cL_law 739 = .ok (.iconst 2, 1) := by decide +kernel
theorem dL_law_740 : decode cL_law 740 = .ok (.iadd, 1) := by decide +kernel
theorem dL_law_741 : decode cL_law 741 = .ok (.iaload, 1) := by decide +kernel
theorem dL_law_742 : decode cL_law 742 = .ok (.invokevirtual 86, 3) := by decide +kernel
theorem dL_law_745 : decode cL_law 745 = .ok (.aload_n 2, 1) := by decide +kernel
theorem dL_law_746 : decode cL_law 746 = .ok (.aload_n 0, 1) := by decide +kernel
theorem dL_law_747 : decode cL_law 747 = .ok (.iload_n 3, 1) := by decide +kernel
theorem dL_law_748 : decode cL_law 748 = .ok (.iconst 1, 1) := by decide +kernel
theorem dL_law_749 : decode cL_law 749 = .ok (.iadd, 1) := by decide +kernel
theorem dL_law_750 : decode cL_law 750 = .ok (.iaload, 1) := by decide +kernel
theorem dL_law_751 : decode cL_law 751 = .ok (.aload_n 0, 1) := by decide +kernel
theorem dL_law_752 : decode cL_law 752 = .ok (.iload_n 3, 1) := by decide +kernel
theorem dL_law_753 : decode cL_law 753 = .ok (.iconst 2, 1) := by decide +kernel
theorem dL_law_754 : decode cL_law 754 = .ok (.iadd, 1) := by decide +kernel
theorem dL_law_755 : decode cL_law 755 = .ok (.iaload, 1) := by decide +kernel
theorem dL_law_756 : decode cL_law 756 = .ok (.invokevirtual 90, 3) := by decide +kernel
theorem dL_law_759 : decode cL_law 759 = .ok (.lcmp, 1) := by decide +kernel
theorem dL_law_760 : decode cL_law 760 = .ok (.ifCond .eq 481, 3) := by decide +kernel
theorem dL_law_763 : decode cL_law 763 = .ok (.iconst 0, 1) := by decide +kernel
theorem dL_law_764 : decode cL_law 764 = .ok (.ireturn, 1) := by decide +kernel
theorem dL_law_765 : decode cL_law 765 = .ok (.aload_n 1, 1) := by decide +kernel
theorem dL_law_766 : decode cL_law 766 = .ok (.aload_n 0, 1) := by decide +kernel
theorem dL_law_767 : decode cL_law 767 = .ok (.iload_n 3, 1) := by decide +kernel
theorem dL_law_768 : decode cL_law 768 = .ok (.iconst 1, 1) := by decide +kernel
theorem dL_law_769 : decode cL_law 769 = .ok (.iadd, 1) := by decide +kernel
theorem dL_law_770 : decode cL_law 770 = .ok (.iaload, 1) := by decide +kernel
theorem dL_law_771 : decode cL_law 771 = .ok (.invokevirtual 91, 3) := by decide +kernel
theorem dL_law_774 : decode cL_law 774 = .ok (.aload_n 2, 1) := by decide +kernel
theorem dL_law_775 : decode cL_law 775 = .ok (.aload_n 0, 1) := by decide +kernel
theorem dL_law_776 : decode cL_law 776 = .ok (.iload_n 3, 1) := by decide +kernel
theorem dL_law_777 : decode cL_law 777 = .ok (.iconst 1, 1) := by decide +kernel
theorem dL_law_778 : decode cL_law 778 = .ok (.iadd, 1) := by decide +kernel
theorem dL_law_779 : decode cL_law 779 = .ok (.iaload, 1) := by decide +kernel
theorem dL_law_780 : decode cL_law 780 = .ok (.invokevirtual 94, 3) := by decide +kernel
theorem dL_law_783 : decode cL_law 783 = .ok (.if_icmp .eq 458, 3) := by decide +kernel
theorem dL_law_786 : decode cL_law 786 = .ok (.iconst 0, 1) := by decide +kernel
theorem dL_law_787 : decode cL_law 787 = .ok (.ireturn, 1) := by decide +kernel
theorem dL_law_788 : decode cL_law 788 = .ok (.aload_n 1, 1) := by decide +kernel
theorem dL_law_789 : decode cL_law 789 = .ok (.invokevirtual 95, 3) := by decide +kernel
theorem dL_law_792 : decode cL_law 792 = .ok (.aload_n 2, 1) := by decide +kernel
theorem dL_law_793 : decode cL_law 793 = .ok (.invokevirtual 98, 3) := by decide +kernel
theorem dL_law_796 : decode cL_law 796 = .ok (.if_icmp .eq 445, 3) := by decide +kernel
theorem dL_law_799 : decode cL_law 799 = .ok (.iconst 0, 1) := by decide +kernel
theorem dL_law_800 : decode cL_law 800 = .ok (.ireturn, 1) := by decide +kernel
theorem dL_law_801 : decode cL_law 801 = .ok (.aload_n 1, 1) := by decide +kernel
theorem dL_law_802 : decode cL_law 802 = .ok (.invokevirtual 99, 3) := by decide +kernel
theorem dL_law_805 : decode cL_law 805 = .ok (.aload_n 2, 1) := by decide +kernel
theorem dL_law_806 : decode cL_law 806 = .ok (.invokevirtual 102, 3) := by decide +kernel
theorem dL_law_809 : decode cL_law 809 = .ok (.if_icmp .eq 432, 3) := by decide +kernel
theorem dL_law_812 : decode cL_law 812 = .ok (.iconst 0, 1) := by decide +kernel
theorem dL_law_813 : decode cL_law 813 = .ok (.ireturn, 1) := by decide +kernel
theorem dL_law_814 : decode cL_law 814 = .ok (.aload_n 1, 1) := by decide +kernel
theorem dL_law_815 : decode cL_law 815 = .ok (.aload_n 0, 1) := by decide +kernel
theorem dL_law_816 : decode cL_law 816 = .ok (.iload_n 3, 1) := by decide +kernel
theorem dL_law_817 : decode cL_law 817 = .ok (.iconst 1, 1) := by decide +kernel
theorem dL_law_818 : decode cL_law 818 = .ok (.iadd, 1) := by decide +kernel
theorem dL_law_819 : decode cL_law 819 = .ok (.iaload, 1) := by decide +kernel
theorem dL_law_820 : decode cL_law 820 = .ok (.invokevirtual 103, 3) := by decide +kernel
theorem dL_law_823 : decode cL_law 823 = .ok (.aload_n 2, 1) := by decide +kernel
theorem dL_law_824 : decode cL_law 824 = .ok (.aload_n 0, 1) := by decide +kernel
theorem dL_law_825 : decode cL_law 825 = .ok (.iload_n 3, 1) := by decide +kernel
theorem dL_law_826 : decode cL_law 826 = .ok (.iconst 1, 1) := by decide +kernel
theorem dL_law_827 : decode cL_law 827 = .ok (.iadd, 1) := by decide +kernel
theorem dL_law_828 : decode cL_law 828 = .ok (.iaload, 1) := by decide +kernel
theorem dL_law_829 : decode cL_law 829 = .ok (.invokevirtual 106, 3) := by decide +kernel
theorem dL_law_832 : decode cL_law 832 = .ok (.if_icmp .eq 409, 3) := by decide +kernel
theorem dL_law_835 : decode cL_law 835 = .ok (.iconst 0, 1) := by decide +kernel
theorem dL_law_836 : decode cL_law 836 = .ok (.ireturn, 1) := by decide +kernel
theorem dL_law_837 : decode cL_law 837 = .ok (.aload_n 1, 1) := by decide +kernel
theorem dL_law_838 : decode cL_law 838 = .ok (.aload_n 0, 1) := by decide +kernel
theorem dL_law_839 : decode cL_law 839 = .ok (.iload_n 3, 1) := by decide +kernel
theorem dL_law_840 : decode cL_law 840 = .ok (.iconst 1, 1) := by decide +kernel
theorem dL_law_841 : decode cL_law 841 = .ok (.iadd, 1) := by decide +kernel
theorem dL_law_842 : decode cL_law 842 = .ok (.iaload, 1) := by decide +kernel
theorem dL_law_843 : decode cL_law 843 = .ok (.aload_n 0, 1) := by decide +kernel
theorem dL_law_844 : decode cL_law 844 = .ok (.iload_n 3, 1) := by decide +kernel
theorem dL_law_845 : decode cL_law 845 = .ok (.iconst 2, 1) := by decide +kernel
theorem dL_law_846 : decode cL_law 846 = .ok (.iadd, 1) := by decide +kernel
theorem dL_law_847 : decode cL_law 847 = .ok (.iaload, 1) := by decide +kernel
theorem dL_law_848 : decode cL_law 848 = .ok (.aload_n 0, 1) := by decide +kernel
theorem dL_law_849 : decode cL_law 849 = .ok (.iload_n 3, 1) := by decide +kernel
theorem dL_law_850 : decode cL_law 850 = .ok (.iconst 3, 1) := by decide +kernel
theorem dL_law_851 : decode cL_law 851 = .ok (.iadd, 1) := by decide +kernel
theorem dL_law_852 : decode cL_law 852 = .ok (.iaload, 1) := by decide +kernel
theorem dL_law_853 : decode cL_law 853 = .ok (.invokevirtual 107, 3) := by decide +kernel
theorem dL_law_856 : decode cL_law 856 = .ok (.aload_n 2, 1) := by decide +kernel
theorem dL_law_857 : decode cL_law 857 = .ok (.aload_n 0, 1) := by decide +kernel
theorem dL_law_858 : decode cL_law 858 = .ok (.iload_n 3, 1) := by decide +kernel
theorem dL_law_859 : decode cL_law 859 = .ok (.iconst 1, 1) := by decide +kernel
theorem dL_law_860 : decode cL_law 860 = .ok (.iadd, 1) := by decide +kernel
theorem dL_law_861 : decode cL_law 861 = .ok (.iaload, 1) := by decide +kernel
theorem dL_law_862 : decode cL_law 862 = .ok (.aload_n 0, 1) := by decide +kernel
theorem dL_law_863 : decode cL_law 863 = .ok (.iload_n 3, 1) := by decide +kernel
theorem dL_law_864 : decode cL_law 864 = .ok (.iconst 2, 1) := by decide +kernel
theorem dL_law_865 : decode cL_law 865 = .ok (.iadd, 1) := by decide +kernel
theorem dL_law_866 : decode cL_law 866 = .ok (.iaload, 1) := by decide +kernel
theorem dL_law_867 : decode cL_law 867 = .ok (.aload_n 0, 1) := by decide +kernel
theorem dL_law_868 : decode cL_law 868 = .ok (.iload_n 3, 1) := by decide +kernel
theorem dL_law_869 : decode cL_law 869 = .ok (.iconst 3, 1) := by decide +kernel
theorem dL_law_870 : decode cL_law 870 = .ok (.iadd, 1) := by decide +kernel
theorem dL_law_871 : decode cL_law 871 = .ok (.iaload, 1) := by decide +kernel
theorem dL_law_872 : decode cL_law 872 = .ok (.invokevirtual 110, 3) := by decide +kernel
theorem dL_law_875 : decode cL_law 875 = .ok (.if_icmp .eq 366, 3) := by decide +kernel
theorem dL_law_878 : decode cL_law 878 = .ok (.iconst 0, 1) := by decide +kernel
theorem dL_law_879 : decode cL_law 879 = .ok (.ireturn, 1) := by decide +kernel
theorem dL_law_880 : decode cL_law 880 = .ok (.aload_n 1, 1) := by decide +kernel
theorem dL_law_881 : decode cL_law 881 = .ok (.invokevirtual 111, 3) := by decide +kernel
theorem dL_law_884 : decode cL_law 884 = .ok (.aload_n 2, 1) := by decide +kernel
theorem dL_law_885 : decode cL_law 885 = .ok (.invokevirtual 114, 3) := by decide +kernel
theorem dL_law_888 : decode cL_law 888 = .ok (.if_icmp .eq 353, 3) := by decide +kernel
theorem dL_law_891 : decode cL_law 891 = .ok (.iconst 0, 1) := by decide +kernel
theorem dL_law_892 : decode cL_law 892 = .ok (.ireturn, 1) := by decide +kernel
theorem dL_law_893 : decode cL_law 893 = .ok (.aload_n 1, 1) := by decide +kernel
theorem dL_law_894 : decode cL_law 894 = .ok (.invokevirtual 115, 3) := by decide +kernel
theorem dL_law_897 : decode cL_law 897 = .ok (.aload_n 2, 1) := by decide +kernel
theorem dL_law_898 : decode cL_law 898 = .ok (.invokevirtual 118, 3) := by decide +kernel
theorem dL_law_901 : decode cL_law 901 = .ok (.if_icmp .eq 340, 3) := by decide +kernel
theorem dL_law_904 : decode cL_law 904 = .ok (.iconst 0, 1) := by decide +kernel
theorem dL_law_905 : decode cL_law 905 = .ok (.ireturn, 1) := by decide +kernel
theorem dL_law_906 : decode cL_law 906 = .ok (.aload_n 1, 1) := by decide +kernel
theorem dL_law_907 : decode cL_law 907 = .ok (.aload_n 0, 1) := by decide +kernel
theorem dL_law_908 : decode cL_law 908 = .ok (.iload_n 3, 1) := by decide +kernel
theorem dL_law_909 : decode cL_law 909 = .ok (.iconst 1, 1) := by decide +kernel
theorem dL_law_910 : decode cL_law 910 = .ok (.iadd, 1) := by decide +kernel
theorem dL_law_911 : decode cL_law 911 = .ok (.iaload, 1) := by decide +kernel
theorem dL_law_912 : decode cL_law 912 = .ok (.aload_n 0, 1) := by decide +kernel
theorem dL_law_913 : decode cL_law 913 = .ok (.iload_n 3, 1) := by decide +kernel
theorem dL_law_914 : decode cL_law 914 = .ok (.iconst 2, 1) := by decide +kernel
theorem dL_law_915 : decode cL_law 915 = .ok (.iadd, 1) := by decide +kernel
theorem dL_law_916 : decode cL_law 916 = .ok (.iaload, 1) := by decide +kernel
theorem dL_law_917 : decode cL_law 917 = .ok (.aload_n 0, 1) := by decide +kernel
theorem dL_law_918 : decode cL_law 918 = .ok (.iload_n 3, 1) := by decide +kernel
theorem dL_law_919 : decode cL_law 919 = .ok (.iconst 3, 1) := by decide +kernel
theorem dL_law_920 : decode cL_law 920 = .ok (.iadd, 1) := by decide +kernel
theorem dL_law_921 : decode cL_law 921 = .ok (.iaload, 1) := by decide +kernel
theorem dL_law_922 : decode cL_law 922 = .ok (.invokevirtual 119, 3) := by decide +kernel
theorem dL_law_925 : decode cL_law 925 = .ok (.aload_n 2, 1) := by decide +kernel
theorem dL_law_926 : decode cL_law 926 = .ok (.aload_n 0, 1) := by decide +kernel
theorem dL_law_927 : decode cL_law 927 = .ok (.iload_n 3, 1) := by decide +kernel
theorem dL_law_928 : decode cL_law 928 = .ok (.iconst 1, 1) := by decide +kernel
theorem dL_law_929 : decode cL_law 929 = .ok (.iadd, 1) := by decide +kernel
theorem dL_law_930 : decode cL_law 930 = .ok (.iaload, 1) := by decide +kernel
theorem dL_law_931 : decode cL_law 931 = .ok (.aload_n 0, 1) := by decide +kernel
theorem dL_law_932 : decode cL_law 932 = .ok (.iload_n 3, 1) := by decide +kernel
theorem dL_law_933 : decode cL_law 933 = .ok (.iconst 2, 1) := by decide +kernel
theorem dL_law_934 : decode cL_law 934 = .ok (.iadd, 1) := by decide +kernel
theorem dL_law_935 : decode cL_law 935 = .ok (.iaload, 1) := by decide +kernel
theorem dL_law_936 : decode cL_law 936 = .ok (.aload_n 0, 1) := by decide +kernel
theorem dL_law_937 : decode cL_law 937 = .ok (.iload_n 3, 1) := by decide +kernel
theorem dL_law_938 : decode cL_law 938 = .ok (.iconst 3, 1) := by decide +kernel
theorem dL_law_939 : decode cL_law 939 = .ok (.iadd, 1) := by decide +kernel
theorem dL_law_940 : decode cL_law 940 = .ok (.iaload, 1) := by decide +kernel
theorem dL_law_941 : decode cL_law 941 = .ok (.invokevirtual 122, 3) := by decide +kernel
theorem dL_law_944 : decode cL_law 944 = .ok (.if_icmp .eq 297, 3) := by decide +kernel
theorem dL_law_947 : decode cL_law 947 = .ok (.iconst 0, 1) := by decide +kernel
theorem dL_law_948 : decode cL_law 948 = .ok (.ireturn, 1) := by decide +kernel
theorem dL_law_949 : decode cL_law 949 = .ok (.aload_n 1, 1) := by decide +kernel
theorem dL_law_950 : decode cL_law 950 = .ok (.aload_n 0, 1) := by decide +kernel
theorem dL_law_951 : decode cL_law 951 = .ok (.iload_n 3, 1) := by decide +kernel
theorem dL_law_952 : decode cL_law 952 = .ok (.iconst 1, 1) := by decide +kernel
theorem dL_law_953 : decode cL_law 953 = .ok (.iadd, 1) := by decide +kernel
theorem dL_law_954 : decode cL_law 954 = .ok (.iaload, 1) := by decide +kernel
theorem dL_law_955 : decode cL_law 955 = .ok (.invokevirtual 123, 3) := by decide +kernel
theorem dL_law_958 : decode cL_law 958 = .ok (.aload_n 2, 1) := by decide +kernel
theorem dL_law_959 : decode cL_law 959 = .ok (.aload_n 0, 1) := by decide +kernel
theorem dL_law_960 : decode cL_law 960 = .ok (.iload_n 3, 1) := by decide +kernel
theorem dL_law_961 : decode cL_law 961 = .ok (.iconst 1, 1) := by decide +kernel
theorem dL_law_962 : decode cL_law 962 = .ok (.iadd, 1) := by decide +kernel
theorem dL_law_963 : decode cL_law 963 = .ok (.iaload, 1) := by decide +kernel
theorem dL_law_964 : decode cL_law 964 = .ok (.invokevirtual 126, 3) := by decide +kernel
theorem dL_law_967 : decode cL_law 967 = .ok (.if_icmp .eq 274, 3) := by decide +kernel
theorem dL_law_970 : decode cL_law 970 = .ok (.iconst 0, 1) := by decide +kernel
theorem dL_law_971 : decode cL_law 971 = .ok (.ireturn, 1) := by decide +kernel
theorem dL_law_972 : decode cL_law 972 = .ok (.aload_n 1, 1) := by decide +kernel
theorem dL_law_973 : decode cL_law 973 = .ok (.aload_n 0, 1) := by decide +kernel
theorem dL_law_974 : decode cL_law 974 = .ok (.iload_n 3, 1) := by decide +kernel
theorem dL_law_975 : decode cL_law 975 = .ok (.iconst 1, 1) := by decide +kernel
theorem dL_law_976 : decode cL_law 976 = .ok (.iadd, 1) := by decide +kernel
theorem dL_law_977 : decode cL_law 977 = .ok (.iaload, 1) := by decide +kernel
theorem dL_law_978 : decode cL_law 978 = .ok (.aload_n 0, 1) := by decide +kernel
theorem dL_law_979 : decode cL_law 979 = .ok (.iload_n 3, 1) := by decide +kernel
theorem dL_law_980 : decode cL_law 980 = .ok (.iconst 2, 1) := by decide +kernel
theorem dL_law_981 : decode cL_law 981 = .ok (.iadd, 1) := by decide +kernel
theorem dL_law_982 : decode cL_law 982 = .ok (.iaload, 1) := by decide +kernel
theorem dL_law_983 : decode cL_law 983 = .ok (.invokevirtual 127, 3) := by decide +kernel
theorem dL_law_986 : decode cL_law 986 = .ok (.aload_n 2, 1) := by decide +kernel
theorem dL_law_987 : decode cL_law 987 = .ok (.aload_n 0, 1) := by decide +kernel
theorem dL_law_988 : decode cL_law 988 = .ok (.iload_n 3, 1) := by decide +kernel
theorem dL_law_989 : decode cL_law 989 = .ok (.iconst 1, 1) := by decide +kernel
theorem dL_law_990 : decode cL_law 990 = .ok (.iadd, 1) := by decide +kernel
theorem dL_law_991 : decode cL_law 991 = .ok (.iaload, 1) := by decide +kernel
theorem dL_law_992 : decode cL_law 992 = .ok (.aload_n 0, 1) := by decide +kernel
theorem dL_law_993 : decode cL_law 993 = .ok (.iload_n 3, 1) := by decide +kernel
theorem dL_law_994 : decode cL_law 994 = .ok (.iconst 2, 1) := by decide +kernel
theorem dL_law_995 : decode cL_law 995 = .ok (.iadd, 1) := by decide +kernel
theorem dL_law_996 : decode cL_law 996 = .ok (.iaload, 1) := by decide +kernel
theorem dL_law_997 : decode cL_law 997 = .ok (.invokevirtual 130, 3) := by decide +kernel
theorem dL_law_1000 : decode cL_law 1000 = .ok (.if_icmp .eq 241, 3) := by decide +kernel
theorem dL_law_1003 : decode cL_law 1003 = .ok (.iconst 0, 1) := by decide +kernel
theorem dL_law_1004 : decode cL_law 1004 = .ok (.ireturn, 1) := by decide +kernel
theorem dL_law_1005 : decode cL_law 1005 = .ok (.aload_n 1, 1) := by decide +kernel
theorem dL_law_1006 : decode cL_law 1006 = .ok (.aload_n 0, 1) := by decide +kernel
theorem dL_law_1007 : decode cL_law 1007 = .ok (.iload_n 3, 1) := by decide +kernel
theorem dL_law_1008 : decode cL_law 1008 = .ok (.iconst 1, 1) := by decide +kernel
theorem dL_law_1009 : decode cL_law 1009 = .ok (.iadd, 1) := by decide +kernel
theorem dL_law_1010 : decode cL_law 1010 = .ok (.iaload, 1) := by decide +kernel
theorem dL_law_1011 : decode cL_law 1011 = .ok (.invokevirtual 131, 3) := by decide +kernel
theorem dL_law_1014 : decode cL_law 1014 = .ok (.aload_n 2, 1) := by decide +kernel
theorem dL_law_1015 : decode cL_law 1015 = .ok (.aload_n 0, 1) := by decide +kernel
theorem dL_law_1016 : decode cL_law 1016 = .ok (.iload_n 3, 1) := by decide +kernel
theorem dL_law_1017 : decode cL_law 1017 = .ok (.iconst 1, 1) := by decide +kernel
theorem dL_law_1018 : decode cL_law 1018 = .ok (.iadd, 1) := by decide +kernel
theorem dL_law_1019 : decode cL_law 1019 = .ok (.iaload, 1) := by decide +kernel
theorem dL_law_1020 : decode cL_law 1020 = .ok (.invokevirtual 134, 3) := by decide +kernel
theorem dL_law_1023 : decode cL_law 1023 = .ok (.if_icmp .eq 218, 3) := by decide +kernel
theorem dL_law_1026 : decode cL_law 1026 = .ok (.iconst 0, 1) := by decide +kernel
theorem dL_law_1027 : decode cL_law 1027 = .ok (.ireturn, 1) := by decide +kernel
theorem dL_law_1028 : decode cL_law 1028 = .ok (.aload_n 1, 1) := by decide +kernel
theorem dL_law_1029 : decode cL_law 1029 = .ok (.aload_n 0, 1) := by decide +kernel
theorem dL_law_1030 : decode cL_law 1030 = .ok (.iload_n 3, 1) := by decide +kernel
theorem dL_law_1031 : decode cL_law 1031 = .ok (.iconst 1, 1) := by decide +kernel
theorem dL_law_1032 : decode cL_law 1032 = .ok (.iadd, 1) := by decide +kernel
theorem dL_law_1033 : decode cL_law 1033 = .ok (.iaload, 1) := by decide +kernel
theorem dL_law_1034 : decode cL_law 1034 = .ok (.aload_n 0, 1) := by decide +kernel
theorem dL_law_1035 : decode cL_law 1035 = .ok (.iload_n 3, 1) := by decide +kernel
theorem dL_law_1036 : decode cL_law 1036 = .ok (.iconst 2, 1) := by decide +kernel
theorem dL_law_1037 : decode cL_law 1037 = .ok (.iadd, 1) := by decide +kernel
theorem dL_law_1038 : decode cL_law 1038 = .ok (.iaload, 1) := by decide +kernel
theorem dL_law_1039 : decode cL_law 1039 = .ok (.aload_n 0, 1) := by decide +kernel
theorem dL_law_1040 : decode cL_law 1040 = .ok (.iload_n 3, 1) := by decide +kernel
theorem dL_law_1041 : decode cL_law 1041 = .ok (.iconst 3, 1) := by decide +kernel
theorem dL_law_1042 : decode cL_law 1042 = .ok (.iadd, 1) := by decide +kernel
theorem dL_law_1043 : decode cL_law 1043 = .ok (.iaload, 1) := by decide +kernel
theorem dL_law_1044 : decode cL_law 1044 = .ok (.invokevirtual 135, 3) := by decide +kernel
theorem dL_law_1047 : decode cL_law 1047 = .ok (.aload_n 2, 1) := by decide +kernel
theorem dL_law_1048 : decode cL_law 1048 = .ok (.aload_n 0, 1) := by decide +kernel
theorem dL_law_1049 : decode cL_law 1049 = .ok (.iload_n 3, 1) := by decide +kernel
theorem dL_law_1050 : decode cL_law 1050 = .ok (.iconst 1, 1) := by decide +kernel
theorem dL_law_1051 : decode cL_law 1051 = .ok (.iadd, 1) := by decide +kernel
theorem dL_law_1052 : decode cL_law 1052 = .ok (.iaload, 1) := by decide +kernel
theorem dL_law_1053 : decode cL_law 1053 = .ok (.aload_n 0, 1) := by decide +kernel
theorem dL_law_1054 : decode cL_law 1054 = .ok (.iload_n 3, 1) := by decide +kernel
theorem dL_law_1055 : decode cL_law 1055 = .ok (.iconst 2, 1) := by decide +kernel
theorem dL_law_1056 : decode cL_law 1056 = .ok (.iadd, 1) := by decide +kernel
theorem dL_law_1057 : decode cL_law 1057 = .ok (.iaload, 1) := by decide +kernel
theorem dL_law_1058 : decode cL_law 1058 = .ok (.aload_n 0, 1) := by decide +kernel
theorem dL_law_1059 : decode cL_law 1059 = .ok (.iload_n 3, 1) := by decide +kernel
theorem dL_law_1060 : decode cL_law 1060 = .ok (.iconst 3, 1) := by decide +kernel
theorem dL_law_1061 : decode cL_law 1061 = .ok (.iadd, 1) := by decide +kernel
theorem dL_law_1062 : decode cL_law 1062 = .ok (.iaload, 1) := by decide +kernel
theorem dL_law_1063 : decode cL_law 1063 = .ok (.invokevirtual 138, 3) := by decide +kernel
theorem dL_law_1066 : decode cL_law 1066 = .ok (.if_icmp .eq 175, 3) := by decide +kernel
theorem dL_law_1069 : decode cL_law 1069 = .ok (.iconst 0, 1) := by decide +kernel
theorem dL_law_1070 : decode cL_law 1070 = .ok (.ireturn, 1) := by decide +kernel
theorem dL_law_1071 : decode cL_law 1071 = .ok (.aload_n 1, 1) := by decide +kernel
theorem dL_law_1072 : decode cL_law 1072 = .ok (.aload_n 0, 1) := by decide +kernel
theorem dL_law_1073 : decode cL_law 1073 = .ok (.iload_n 3, 1) := by decide +kernel
theorem dL_law_1074 : decode cL_law 1074 = .ok (.iconst 1, 1) := by decide +kernel
theorem dL_law_1075 : decode cL_law 1075 = .ok (.iadd, 1) := by decide +kernel
theorem dL_law_1076 : decode cL_law 1076 = .ok (.iaload, 1) := by decide +kernel
theorem dL_law_1077 : decode cL_law 1077 = .ok (.aload_n 0, 1) := by decide +kernel
theorem dL_law_1078 : decode cL_law 1078 = .ok (.iload_n 3, 1) := by decide +kernel
theorem dL_law_1079 : decode cL_law 1079 = .ok (.iconst 2, 1) := by decide +kernel
theorem dL_law_1080 : decode cL_law 1080 = .ok (.iadd, 1) := by decide +kernel
theorem dL_law_1081 : decode cL_law 1081 = .ok (.iaload, 1) := by decide +kernel
theorem dL_law_1082 : decode cL_law 1082 = .ok (.aload_n 0, 1) := by decide +kernel
theorem dL_law_1083 : decode cL_law 1083 = .ok (.iload_n 3, 1) := by decide +kernel
theorem dL_law_1084 : decode cL_law 1084 = .ok (.iconst 3, 1) := by decide +kernel
theorem dL_law_1085 : decode cL_law 1085 = .ok (.iadd, 1) := by decide +kernel
theorem dL_law_1086 : decode cL_law 1086 = .ok (.iaload, 1) := by decide +kernel
theorem dL_law_1087 : decode cL_law 1087 = .ok (.i2l, 1) := by decide +kernel
theorem dL_law_1088 : decode cL_law 1088 = .ok (.bipush 32, 2) := by decide +kernel
theorem dL_law_1090 : decode cL_law 1090 = .ok (.lshl, 1) := by decide +kernel
theorem dL_law_1091 : decode cL_law 1091 = .ok (.aload_n 0, 1) := by decide +kernel
theorem dL_law_1092 : decode cL_law 1092 = .ok (.iload_n 3, 1) := by decide +kernel
theorem dL_law_1093 : decode cL_law 1093 = .ok (.iconst 4, 1) := by decide +kernel
theorem dL_law_1094 : decode cL_law 1094 = .ok (.iadd, 1) := by decide +kernel
theorem dL_law_1095 : decode cL_law 1095 = .ok (.iaload, 1) := by decide +kernel
theorem dL_law_1096 : decode cL_law 1096 = .ok (.i2l, 1) := by decide +kernel
theorem dL_law_1097 : decode cL_law 1097 = .ok (.ldc2_w 139, 3) := by decide +kernel
theorem dL_law_1100 : decode cL_law 1100 = .ok (.land, 1) := by decide +kernel
theorem dL_law_1101 : decode cL_law 1101 = .ok (.lor, 1) := by decide +kernel
theorem dL_law_1102 : decode cL_law 1102 = .ok (.invokevirtual 141, 3) := by decide +kernel
theorem dL_law_1105 : decode cL_law 1105 = .ok (.aload_n 2, 1) := by decide +kernel
theorem dL_law_1106 : decode cL_law 1106 = .ok (.aload_n 0, 1) := by decide +kernel
theorem dL_law_1107 : decode cL_law 1107 = .ok (.iload_n 3, 1) := by decide +kernel
theorem dL_law_1108 : decode cL_law 1108 = .ok (.iconst 1, 1) := by decide +kernel
theorem dL_law_1109 : decode cL_law 1109 = .ok (.iadd, 1) := by decide +kernel
theorem dL_law_1110 : decode cL_law 1110 = .ok (.iaload, 1) := by decide +kernel
theorem dL_law_1111 : decode cL_law 1111 = .ok (.aload_n 0, 1) := by decide +kernel
theorem dL_law_1112 : decode cL_law 1112 = .ok (.iload_n 3, 1) := by decide +kernel
theorem dL_law_1113 : decode cL_law 1113 = .ok (.iconst 2, 1) := by decide +kernel
theorem dL_law_1114 : decode cL_law 1114 = .ok (.iadd, 1) := by decide +kernel
theorem dL_law_1115 : decode cL_law 1115 = .ok (.iaload, 1) := by decide +kernel
theorem dL_law_1116 : decode cL_law 1116 = .ok (.aload_n 0, 1) := by decide +kernel
theorem dL_law_1117 : decode cL_law 1117 = .ok (.iload_n 3, 1) := by decide +kernel
theorem dL_law_1118 : decode cL_law 1118 = .ok (.iconst 3, 1) := by decide +kernel
theorem dL_law_1119 : decode cL_law 1119 = .ok (.iadd, 1) := by decide +kernel
theorem dL_law_1120 : decode cL_law 1120 = .ok (.iaload, 1) := by decide +kernel
theorem dL_law_1121 : decode cL_law 1121 = .ok (.i2l, 1) := by decide +kernel
theorem dL_law_1122 : decode cL_law 1122 = .ok (.bipush 32, 2) := by decide +kernel
theorem dL_law_1124 : decode cL_law 1124 = .ok (.lshl, 1) := by decide +kernel
theorem dL_law_1125 : decode cL_law 1125 = .ok (.aload_n 0, 1) := by decide +kernel
theorem dL_law_1126 : decode cL_law 1126 = .ok (.iload_n 3, 1) := by decide +kernel
theorem dL_law_1127 : decode cL_law 1127 = .ok (.iconst 4, 1) := by decide +kernel
theorem dL_law_1128 : decode cL_law 1128 = .ok (.iadd, 1) := by decide +kernel
theorem dL_law_1129 : decode cL_law 1129 = .ok (.iaload, 1) := by decide +kernel
theorem dL_law_1130 : decode cL_law 1130 = .ok (.i2l, 1) := by decide +kernel
theorem dL_law_1131 : decode cL_law 1131 = .ok (.ldc2_w 139, 3) := by decide +kernel
theorem dL_law_1134 : decode cL_law 1134 = .ok (.land, 1) := by decide +kernel
theorem dL_law_1135 : decode cL_law 1135 = .ok (.lor, 1) := by decide +kernel
theorem dL_law_1136 : decode cL_law 1136 = .ok (.invokevirtual 145, 3) := by decide +kernel
theorem dL_law_1139 : decode cL_law 1139 = .ok (.if_icmp .eq 102, 3) := by decide +kernel
theorem dL_law_1142 : decode cL_law 1142 = .ok (.iconst 0, 1) := by decide +kernel
theorem dL_law_1143 : decode cL_law 1143 = .ok (.ireturn, 1) := by decide +kernel
theorem dL_law_1144 : decode cL_law 1144 = .ok (.aload_n 1, 1) := by decide +kernel
theorem dL_law_1145 : decode cL_law 1145 = .ok (.aload_n 0, 1) := by decide +kernel
theorem dL_law_1146 : decode cL_law 1146 = .ok (.iload_n 3, 1) := by decide +kernel
theorem dL_law_1147 : decode cL_law 1147 = .ok (.iconst 1, 1) := by decide +kernel
theorem dL_law_1148 : decode cL_law 1148 = .ok (.iadd, 1) := by decide +kernel
theorem dL_law_1149 : decode cL_law 1149 = .ok (.iaload, 1) := by decide +kernel
theorem dL_law_1150 : decode cL_law 1150 = .ok (.aload_n 0, 1) := by decide +kernel
theorem dL_law_1151 : decode cL_law 1151 = .ok (.iload_n 3, 1) := by decide +kernel
theorem dL_law_1152 : decode cL_law 1152 = .ok (.iconst 2, 1) := by decide +kernel
theorem dL_law_1153 : decode cL_law 1153 = .ok (.iadd, 1) := by decide +kernel
theorem dL_law_1154 : decode cL_law 1154 = .ok (.iaload, 1) := by decide +kernel
theorem dL_law_1155 : decode cL_law 1155 = .ok (.invokevirtual 146, 3) := by decide +kernel
theorem dL_law_1158 : decode cL_law 1158 = .ok (.aload_n 2, 1) := by decide +kernel
theorem dL_law_1159 : decode cL_law 1159 = .ok (.aload_n 0, 1) := by decide +kernel
theorem dL_law_1160 : decode cL_law 1160 = .ok (.iload_n 3, 1) := by decide +kernel
theorem dL_law_1161 : decode cL_law 1161 = .ok (.iconst 1, 1) := by decide +kernel
theorem dL_law_1162 : decode cL_law 1162 = .ok (.iadd, 1) := by decide +kernel
theorem dL_law_1163 : decode cL_law 1163 = .ok (.iaload, 1) := by decide +kernel
theorem dL_law_1164 : decode cL_law 1164 = .ok (.aload_n 0, 1) := by decide +kernel
theorem dL_law_1165 : decode cL_law 1165 = .ok (.iload_n 3, 1) := by decide +kernel
theorem dL_law_1166 : decode cL_law 1166 = .ok (.iconst 2, 1) := by decide +kernel
theorem dL_law_1167 : decode cL_law 1167 = .ok (.iadd, 1) := by decide +kernel
theorem dL_law_1168 : decode cL_law 1168 = .ok (.iaload, 1) := by decide +kernel
theorem dL_law_1169 : decode cL_law 1169 = .ok (.invokevirtual 149, 3) := by decide +kernel
theorem dL_law_1172 : decode cL_law 1172 = .ok (.lcmp, 1) := by decide +kernel
theorem dL_law_1173 : decode cL_law 1173 = .ok (.ifCond .eq 68, 3) := by decide +kernel
theorem dL_law_1176 : decode cL_law 1176 = .ok (.iconst 0, 1) := by decide +kernel
theorem dL_law_1177 : decode cL_law 1177 = .ok (.ireturn, 1) := by decide +kernel
theorem dL_law_1178 : decode cL_law 1178 = .ok (.aload_n 1, 1) := by decide +kernel
theorem dL_law_1179 : decode cL_law 1179 = .ok (.aload_n 0, 1) := by decide +kernel
theorem dL_law_1180 : decode cL_law 1180 = .ok (.iload_n 3, 1) := by decide +kernel
theorem dL_law_1181 : decode cL_law 1181 = .ok (.iconst 1, 1) := by decide +kernel
theorem dL_law_1182 : decode cL_law 1182 = .ok (.iadd, 1) := by decide +kernel
theorem dL_law_1183 : decode cL_law 1183 = .ok (.iaload, 1) := by decide +kernel
theorem dL_law_1184 : decode cL_law 1184 = .ok (.aload_n 0, 1) := by decide +kernel
theorem dL_law_1185 : decode cL_law 1185 = .ok (.iload_n 3, 1) := by decide +kernel
theorem dL_law_1186 : decode cL_law 1186 = .ok (.iconst 2, 1) := by decide +kernel
theorem dL_law_1187 : decode cL_law 1187 = .ok (.iadd, 1) := by decide +kernel
theorem dL_law_1188 : decode cL_law 1188 = .ok (.iaload, 1) := by decide +kernel
theorem dL_law_1189 : decode cL_law 1189 = .ok (.aload_n 0, 1) := by decide +kernel
theorem dL_law_1190 : decode cL_law 1190 = .ok (.iload_n 3, 1) := by decide +kernel
theorem dL_law_1191 : decode cL_law 1191 = .ok (.iconst 3, 1) := by decide +kernel
theorem dL_law_1192 : decode cL_law 1192 = .ok (.iadd, 1) := by decide +kernel
theorem dL_law_1193 : decode cL_law 1193 = .ok (.iaload, 1) := by decide +kernel
theorem dL_law_1194 : decode cL_law 1194 = .ok (.aload_n 0, 1) := by decide +kernel
theorem dL_law_1195 : decode cL_law 1195 = .ok (.iload_n 3, 1) := by decide +kernel
theorem dL_law_1196 : decode cL_law 1196 = .ok (.iconst 4, 1) := by decide +kernel
theorem dL_law_1197 : decode cL_law 1197 = .ok (.iadd, 1) := by decide +kernel
theorem dL_law_1198 : decode cL_law 1198 = .ok (.iaload, 1) := by decide +kernel
theorem dL_law_1199 : decode cL_law 1199 = .ok (.aload_n 0, 1) := by decide +kernel
theorem dL_law_1200 : decode cL_law 1200 = .ok (.iload_n 3, 1) := by decide +kernel
theorem dL_law_1201 : decode cL_law 1201 = .ok (.iconst 5, 1) := by decide +kernel
theorem dL_law_1202 : decode cL_law 1202 = .ok (.iadd, 1) := by decide +kernel
theorem dL_law_1203 : decode cL_law 1203 = .ok (.iaload, 1) := by decide +kernel
theorem dL_law_1204 : decode cL_law 1204 = .ok (.invokevirtual 150, 3) := by decide +kernel
theorem dL_law_1207 : decode cL_law 1207 = .ok (.aload_n 2, 1) := by decide +kernel
theorem dL_law_1208 : decode cL_law 1208 = .ok (.aload_n 0, 1) := by decide +kernel
theorem dL_law_1209 : decode cL_law 1209 = .ok (.iload_n 3, 1) := by decide +kernel
theorem dL_law_1210 : decode cL_law 1210 = .ok (.iconst 1, 1) := by decide +kernel
theorem dL_law_1211 : decode cL_law 1211 = .ok (.iadd, 1) := by decide +kernel
theorem dL_law_1212 : decode cL_law 1212 = .ok (.iaload, 1) := by decide +kernel
theorem dL_law_1213 : decode cL_law 1213 = .ok (.aload_n 0, 1) := by decide +kernel
theorem dL_law_1214 : decode cL_law 1214 = .ok (.iload_n 3, 1) := by decide +kernel
theorem dL_law_1215 : decode cL_law 1215 = .ok (.iconst 2, 1) := by decide +kernel
theorem dL_law_1216 : decode cL_law 1216 = .ok (.iadd, 1) := by decide +kernel
theorem dL_law_1217 : decode cL_law 1217 = .ok (.iaload, 1) := by decide +kernel
theorem dL_law_1218 : decode cL_law 1218 = .ok (.aload_n 0, 1) := by decide +kernel
theorem dL_law_1219 : decode cL_law 1219 = .ok (.iload_n 3, 1) := by decide +kernel
theorem dL_law_1220 : decode cL_law 1220 = .ok (.iconst 3, 1) := by decide +kernel
theorem dL_law_1221 : decode cL_law 1221 = .ok (.iadd, 1) := by decide +kernel
theorem dL_law_1222 : decode cL_law 1222 = .ok (.iaload, 1) := by decide +kernel
theorem dL_law_1223 : decode cL_law 1223 = .ok (.aload_n 0, 1) := by decide +kernel
theorem dL_law_1224 : decode cL_law 1224 = .ok (.iload_n 3, 1) := by decide +kernel
theorem dL_law_1225 : decode cL_law 1225 = .ok (.iconst 4, 1) := by decide +kernel
theorem dL_law_1226 : decode cL_law 1226 = .ok (.iadd, 1) := by decide +kernel
theorem dL_law_1227 : decode cL_law 1227 = .ok (.iaload, 1) := by decide +kernel
theorem dL_law_1228 : decode cL_law 1228 = .ok (.aload_n 0, 1) := by decide +kernel
theorem dL_law_1229 : decode cL_law 1229 = .ok (.iload_n 3, 1) := by decide +kernel
theorem dL_law_1230 : decode cL_law 1230 = .ok (.iconst 5, 1) := by decide +kernel
theorem dL_law_1231 : decode cL_law 1231 = .ok (.iadd, 1) := by decide +kernel
theorem dL_law_1232 : decode cL_law 1232 = .ok (.iaload, 1) := by decide +kernel
theorem dL_law_1233 : decode cL_law 1233 = .ok (.invokevirtual 154, 3) := by decide +kernel
theorem dL_law_1236 : decode cL_law 1236 = .ok (.if_icmp .eq 5, 3) := by decide +kernel
theorem dL_law_1239 : decode cL_law 1239 = .ok (.iconst 0, 1) := by decide +kernel
theorem dL_law_1240 : decode cL_law 1240 = .ok (.ireturn, 1) := by decide +kernel
theorem dL_law_1241 : decode cL_law 1241 = .ok (.iinc 3 6, 3) := by decide +kernel
theorem dL_law_1244 : decode cL_law 1244 = .ok (.goto (-1226), 3) := by decide +kernel
theorem dL_law_1247 : decode cL_law 1247 = .ok (.iconst 1, 1) := by decide +kernel
theorem dL_law_1248 : decode cL_law 1248 = .ok (.ireturn, 1) := by decide +kernel
def fL_law_b18 (xs : Nat → Int32) (LN : Nat) : Nat → Nat → Nat → Int32 → SH → IH → LH → Nat → Option ((Nat × Nat) × (Int32 × SH × IH × LH × Nat))
  | 0, _, _, _, _, _, _, _ => none
  | fuel + 1, v1, v2, v3, sh, I, L, n =>
    if ((Int32.ofNat LN) - 6) < v3 then (
      some ((0, 0), (1, sh, I, L, n))) else
    (scr xs LN v3).bind fun x1 =>
    if (x1 &&& 63) = 0 then (
      (scr xs LN (v3 + 1)).bind fun x2 =>
      (ck sh 6 v1).bind fun u3 =>
      b2 (fX6_places sh v1 x2 I) fun x4 i5 =>
      (scr xs LN (v3 + 1)).bind fun x6 =>
      (ck sh 7 v2).bind fun u7 =>
      b2 (fX7_places sh v2 x6 i5) fun x8 i9 =>
      if x4 = x8 then (
        fL_law_b18 xs LN fuel v1 v2 (v3 + 6) sh i9 L n) else
      some ((0, 0), (0, sh, i9, L, n))) else
    if (x1 &&& 63) = 1 then (
      (scr xs LN (v3 + 1)).bind fun x10 =>
      (scr xs LN (v3 + 2)).bind fun x11 =>
      (ck sh 6 v1).bind fun u12 =>
      b2 (fX6_sky sh v1 x10 x11 I) fun x13 i14 =>
      (scr xs LN (v3 + 1)).bind fun x15 =>
      (scr xs LN (v3 + 2)).bind fun x16 =>
      (ck sh 7 v2).bind fun u17 =>
      b2 (fX7_sky sh v2 x15 x16 i14) fun x18 i19 =>
      if x13 = x18 then (
        fL_law_b18 xs LN fuel v1 v2 (v3 + 6) sh i19 L n) else
      some ((0, 0), (0, sh, i19, L, n))) else
    if (x1 &&& 63) = 2 then (
      (scr xs LN (v3 + 1)).bind fun x20 =>
      (scr xs LN (v3 + 2)).bind fun x21 =>
      (ck sh 6 v1).bind fun u22 =>
      b2 (fX6_feed sh v1 x20 x21 I) fun x23 i24 =>
      (scr xs LN (v3 + 1)).bind fun x25 =>
      (scr xs LN (v3 + 2)).bind fun x26 =>
      (ck sh 7 v2).bind fun u27 =>
      b2 (fX7_feed sh v2 x25 x26 i24) fun x28 i29 =>
      if x23 = x28 then (
        fL_law_b18 xs LN fuel v1 v2 (v3 + 6) sh i29 L n) else
      some ((0, 0), (0, sh, i29, L, n))) else
    if (x1 &&& 63) = 3 then (
      (ck sh 6 v1).bind fun u30 =>
      bE4 (fX6_valley v1 sh I n) fun x31 h32 i33 n34 =>
      (ck h32 7 v2).bind fun u39 =>
      b2 (fX7_valley h32 v2 i33) fun x40 i41 =>
      if x31 = x40 then (
        fL_law_b18 xs LN fuel v1 v2 (v3 + 6) h32 i41 L n34) else
      some ((0, 0), (0, h32, i41, L, n34))) else
    if (x1 &&& 63) = 4 then (
      (scr xs LN (v3 + 1)).bind fun x42 =>
      (scr xs LN (v3 + 2)).bind fun x43 =>
      (ck sh 6 v1).bind fun u44 =>
      (fX6_told sh I v1 x42 x43).bind fun x45 =>
      (scr xs LN (v3 + 1)).bind fun x46 =>
      (scr xs LN (v3 + 2)).bind fun x47 =>
      (ck sh 7 v2).bind fun u48 =>
      (fX7_told sh I v2 x46 x47).bind fun x49 =>
      if x45 = x49 then (
        fL_law_b18 xs LN fuel v1 v2 (v3 + 6) sh I L n) else
      some ((0, 0), (0, sh, I, L, n))) else
    if (x1 &&& 63) = 5 then (
      (scr xs LN (v3 + 1)).bind fun x50 =>
      (ck sh 6 v1).bind fun u51 =>
      (fX6_melts sh I v1 x50).bind fun x52 =>
      (scr xs LN (v3 + 1)).bind fun x53 =>
      (ck sh 7 v2).bind fun u54 =>
      b2 (fX7_melts sh v2 x53 I) fun x55 i56 =>
      if x52 = x55 then (
        fL_law_b18 xs LN fuel v1 v2 (v3 + 6) sh i56 L n) else
      some ((0, 0), (0, sh, i56, L, n))) else
    if (x1 &&& 63) = 6 then (
      (scr xs LN (v3 + 1)).bind fun x57 =>
      (scr xs LN (v3 + 2)).bind fun x58 =>
      (scr xs LN (v3 + 3)).bind fun x59 =>
      (scr xs LN (v3 + 4)).bind fun x60 =>
      (ck sh 6 v1).bind fun u61 =>
      b2 (fX6_gate sh v1 x57 x58 x59 x60 I) fun x62 i63 =>
      (scr xs LN (v3 + 1)).bind fun x64 =>
      (scr xs LN (v3 + 2)).bind fun x65 =>
      (scr xs LN (v3 + 3)).bind fun x66 =>
      (scr xs LN (v3 + 4)).bind fun x67 =>
      (ck sh 7 v2).bind fun u68 =>
      b2 (fX7_gate sh v2 x64 x65 x66 x67 i63) fun x69 i70 =>
      if x62 = x69 then (
        fL_law_b18 xs LN fuel v1 v2 (v3 + 6) sh i70 L n) else
      some ((0, 0), (0, sh, i70, L, n))) else
    if (x1 &&& 63) = 7 then (
      (scr xs LN (v3 + 1)).bind fun x71 =>
      (scr xs LN (v3 + 2)).bind fun x72 =>
      (ck sh 6 v1).bind fun u73 =>
      (fX6_of sh I v1 x71 x72).bind fun x74 =>
      (scr xs LN (v3 + 1)).bind fun x75 =>
      (scr xs LN (v3 + 2)).bind fun x76 =>
      (ck sh 7 v2).bind fun u77 =>
      (fX7_of sh I v2 x75 x76).bind fun x78 =>
      if x74 = x78 then (
        fL_law_b18 xs LN fuel v1 v2 (v3 + 6) sh I L n) else
      some ((0, 0), (0, sh, I, L, n))) else
    if (x1 &&& 63) = 8 then (
      (scr xs LN (v3 + 1)).bind fun x79 =>
      (scr xs LN (v3 + 2)).bind fun x80 =>
      (scr xs LN (v3 + 3)).bind fun x81 =>
      (ck sh 6 v1).bind fun u82 =>
      b2 (fX6_water sh v1 x79 x80 x81 I) fun x83 i84 =>
      (scr xs LN (v3 + 1)).bind fun x85 =>
      (scr xs LN (v3 + 2)).bind fun x86 =>
      (scr xs LN (v3 + 3)).bind fun x87 =>
      (ck sh 7 v2).bind fun u88 =>
      b2 (fX7_water sh v2 x85 x86 x87 i84) fun x89 i90 =>
      if x83 = x89 then (
        fL_law_b18 xs LN fuel v1 v2 (v3 + 6) sh i90 L n) else
      some ((0, 0), (0, sh, i90, L, n))) else
    if (x1 &&& 63) = 9 then (
      (scr xs LN (v3 + 1)).bind fun x91 =>
      (ck sh 6 v1).bind fun u92 =>
      b2 (fX6_all sh v1 x91 I) fun x93 i94 =>
      (scr xs LN (v3 + 1)).bind fun x95 =>
      (ck sh 7 v2).bind fun u96 =>
      b2 (fX7_all sh v2 x95 i94) fun x97 i98 =>
      if x93 = x97 then (
        fL_law_b18 xs LN fuel v1 v2 (v3 + 6) sh i98 L n) else
      some ((0, 0), (0, sh, i98, L, n))) else
    if (x1 &&& 63) = 10 then (
      (scr xs LN (v3 + 1)).bind fun x99 =>
      (scr xs LN (v3 + 2)).bind fun x100 =>
      (scr xs LN (v3 + 3)).bind fun x101 =>
      (scr xs LN (v3 + 4)).bind fun x102 =>
      (ck sh 6 v1).bind fun u103 =>
      b2 (fX6_want sh v1 x99 x100 x101 x102 I) fun x104 i105 =>
      (scr xs LN (v3 + 1)).bind fun x106 =>
      (scr xs LN (v3 + 2)).bind fun x107 =>
      (scr xs LN (v3 + 3)).bind fun x108 =>
      (scr xs LN (v3 + 4)).bind fun x109 =>
      (ck sh 7 v2).bind fun u110 =>
      b2 (fX7_want sh v2 x106 x107 x108 x109 i105) fun x111 i112 =>
      if x104 = x111 then (
        fL_law_b18 xs LN fuel v1 v2 (v3 + 6) sh i112 L n) else
      some ((0, 0), (0, sh, i112, L, n))) else
    if (x1 &&& 63) = 11 then (
      (scr xs LN (v3 + 1)).bind fun x113 =>
      (scr xs LN (v3 + 2)).bind fun x114 =>
      (ck sh 6 v1).bind fun u115 =>
      b2 (fX6_wants sh v1 x113 x114 I) fun x116 i117 =>
      (scr xs LN (v3 + 1)).bind fun x118 =>
      (scr xs LN (v3 + 2)).bind fun x119 =>
      (ck sh 7 v2).bind fun u120 =>
      b2 (fX7_wants sh v2 x118 x119 i117) fun x121 i122 =>
      if x116 = x121 then (
        fL_law_b18 xs LN fuel v1 v2 (v3 + 6) sh i122 L n) else
      some ((0, 0), (0, sh, i122, L, n))) else
    if (x1 &&& 63) = 12 then (
      (ck sh 6 v1).bind fun u123 =>
      b2 (fX6_worth sh v1 I) fun x124 i125 =>
      (ck sh 7 v2).bind fun u126 =>
      b2 (fX7_worth sh v2 i125) fun x127 i128 =>
      if x124 = x127 then (
        fL_law_b18 xs LN fuel v1 v2 (v3 + 6) sh i128 L n) else
      some ((0, 0), (0, sh, i128, L, n))) else
    if (x1 &&& 63) = 13 then (
      (scr xs LN (v3 + 1)).bind fun x129 =>
      (scr xs LN (v3 + 2)).bind fun x130 =>
      (ck sh 6 v1).bind fun u131 =>
      b2 (fX6_best sh v1 x129 x130 I) fun x132 i133 =>
      (scr xs LN (v3 + 1)).bind fun x134 =>
      (scr xs LN (v3 + 2)).bind fun x135 =>
      (ck sh 7 v2).bind fun u136 =>
      b2 (fX7_best sh v2 x134 x135 i133) fun x137 i138 =>
      if x132 = x137 then (
        fL_law_b18 xs LN fuel v1 v2 (v3 + 6) sh i138 L n) else
      some ((0, 0), (0, sh, i138, L, n))) else
    if (x1 &&& 63) = 14 then (
      (scr xs LN (v3 + 1)).bind fun x139 =>
      (ck sh 6 v1).bind fun u140 =>
      b2 (fX6_price sh v1 x139 I) fun x141 i142 =>
      (scr xs LN (v3 + 1)).bind fun x143 =>
      (ck sh 7 v2).bind fun u144 =>
      b2 (fX7_price sh v2 x143 i142) fun x145 i146 =>
      if x141 = x145 then (
        fL_law_b18 xs LN fuel v1 v2 (v3 + 6) sh i146 L n) else
      some ((0, 0), (0, sh, i146, L, n))) else
    if (x1 &&& 63) = 15 then (
      (scr xs LN (v3 + 1)).bind fun x147 =>
      (scr xs LN (v3 + 2)).bind fun x148 =>
      (scr xs LN (v3 + 3)).bind fun x149 =>
      (scr xs LN (v3 + 4)).bind fun x150 =>
      (ck sh 6 v1).bind fun u151 =>
      b2 (fX6_part sh v1 x147 x148 x149 x150 I) fun x152 i153 =>
      (scr xs LN (v3 + 1)).bind fun x154 =>
      (scr xs LN (v3 + 2)).bind fun x155 =>
      (scr xs LN (v3 + 3)).bind fun x156 =>
      (scr xs LN (v3 + 4)).bind fun x157 =>
      (ck sh 7 v2).bind fun u158 =>
      b2 (fX7_part sh v2 x154 x155 x156 x157 i153) fun x159 i160 =>
      if x152 = x159 then (
        fL_law_b18 xs LN fuel v1 v2 (v3 + 6) sh i160 L n) else
      some ((0, 0), (0, sh, i160, L, n))) else
    if (x1 &&& 63) = 16 then (
      (scr xs LN (v3 + 1)).bind fun x161 =>
      (scr xs LN (v3 + 2)).bind fun x162 =>
      (ck sh 6 v1).bind fun u163 =>
      b2 (fX6_odds sh v1 x161 x162 I) fun x164 i165 =>
      (scr xs LN (v3 + 1)).bind fun x166 =>
      (scr xs LN (v3 + 2)).bind fun x167 =>
      (ck sh 7 v2).bind fun u168 =>
      b2 (fX7_odds sh v2 x166 x167 i165) fun x169 i170 =>
      if x164 = x169 then (
        fL_law_b18 xs LN fuel v1 v2 (v3 + 6) sh i170 L n) else
      some ((0, 0), (0, sh, i170, L, n))) else
    if (x1 &&& 63) = 17 then (
      (scr xs LN (v3 + 1)).bind fun x171 =>
      (scr xs LN (v3 + 2)).bind fun x172 =>
      (ck sh 6 v1).bind fun u173 =>
      b2 (fX6_mean sh v1 x171 x172 I) fun x174 i175 =>
      (scr xs LN (v3 + 1)).bind fun x176 =>
      (scr xs LN (v3 + 2)).bind fun x177 =>
      (ck sh 7 v2).bind fun u178 =>
      b2 (fX7_mean sh v2 x176 x177 i175) fun x179 i180 =>
      if (lg_cmp x174 x179) = 0 then (
        fL_law_b18 xs LN fuel v1 v2 (v3 + 6) sh i180 L n) else
      some ((0, 0), (0, sh, i180, L, n))) else
    if (x1 &&& 63) = 18 then (
      (scr xs LN (v3 + 1)).bind fun x181 =>
      (ck sh 6 v1).bind fun u182 =>
      b2 (fX6_pond sh v1 x181 I) fun x183 i184 =>
      (scr xs LN (v3 + 1)).bind fun x185 =>
      (ck sh 7 v2).bind fun u186 =>
      b2 (fX7_pond sh v2 x185 i184) fun x187 i188 =>
      if x183 = x187 then (
        fL_law_b18 xs LN fuel v1 v2 (v3 + 6) sh i188 L n) else
      some ((0, 0), (0, sh, i188, L, n))) else
    if (x1 &&& 63) = 19 then (
      (ck sh 6 v1).bind fun u189 =>
      b2 (fX6_wrong sh v1 I) fun x190 i191 =>
      (ck sh 7 v2).bind fun u192 =>
      b2 (fX7_wrong sh v2 i191) fun x193 i194 =>
      if x190 = x193 then (
        fL_law_b18 xs LN fuel v1 v2 (v3 + 6) sh i194 L n) else
      some ((0, 0), (0, sh, i194, L, n))) else
    if (x1 &&& 63) = 20 then (
      (ck sh 6 v1).bind fun u195 =>
      b2 (fX6_spare sh v1 I) fun x196 i197 =>
      (ck sh 7 v2).bind fun u198 =>
      b2 (fX7_spare sh v2 i197) fun x199 i200 =>
      if x196 = x199 then (
        fL_law_b18 xs LN fuel v1 v2 (v3 + 6) sh i200 L n) else
      some ((0, 0), (0, sh, i200, L, n))) else
    if (x1 &&& 63) = 21 then (
      (scr xs LN (v3 + 1)).bind fun x201 =>
      (ck sh 6 v1).bind fun u202 =>
      b2 (fX6_day sh v1 x201 I) fun x203 i204 =>
      (scr xs LN (v3 + 1)).bind fun x205 =>
      (ck sh 7 v2).bind fun u206 =>
      b2 (fX7_day sh v2 x205 i204) fun x207 i208 =>
      if x203 = x207 then (
        fL_law_b18 xs LN fuel v1 v2 (v3 + 6) sh i208 L n) else
      some ((0, 0), (0, sh, i208, L, n))) else
    if (x1 &&& 63) = 22 then (
      (scr xs LN (v3 + 1)).bind fun x209 =>
      (scr xs LN (v3 + 2)).bind fun x210 =>
      (scr xs LN (v3 + 3)).bind fun x211 =>
      (ck sh 6 v1).bind fun u212 =>
      b2 (fX6_judge sh L v1 x209 x210 x211 I) fun x213 i214 =>
      (scr xs LN (v3 + 1)).bind fun x215 =>
      (scr xs LN (v3 + 2)).bind fun x216 =>
      (scr xs LN (v3 + 3)).bind fun x217 =>
      (ck sh 7 v2).bind fun u218 =>
      b2 (fX7_judge sh L v2 x215 x216 x217 i214) fun x219 i220 =>
      if x213 = x219 then (
        fL_law_b18 xs LN fuel v1 v2 (v3 + 6) sh i220 L n) else
      some ((0, 0), (0, sh, i220, L, n))) else
    if (x1 &&& 63) = 23 then (
      (ck sh 6 v1).bind fun u221 =>
      b3 (fX6_image v1 sh I) fun x222 h223 i224 =>
      (ck h223 7 v2).bind fun u225 =>
      b2 (fX7_image h223 v2 i224) fun x226 i227 =>
      if x222 = x226 then (
        fL_law_b18 xs LN fuel v1 v2 (v3 + 6) h223 i227 L n) else
      some ((0, 0), (0, h223, i227, L, n))) else
    if (x1 &&& 63) = 24 then (
      (ck sh 6 v1).bind fun u228 =>
      b3 (fX6_undo v1 sh I) fun x229 h230 i231 =>
      (ck h230 7 v2).bind fun u232 =>
      b2 (fX7_undo h230 v2 i231) fun x233 i234 =>
      if x229 = x233 then (
        fL_law_b18 xs LN fuel v1 v2 (v3 + 6) h230 i234 L n) else
      some ((0, 0), (0, h230, i234, L, n))) else
    if (x1 &&& 63) = 25 then (
      (scr xs LN (v3 + 1)).bind fun x235 =>
      (scr xs LN (v3 + 2)).bind fun x236 =>
      (scr xs LN (v3 + 3)).bind fun x237 =>
      (ck sh 6 v1).bind fun u238 =>
      b2 (fX6_act sh v1 x235 x236 x237 I) fun x239 i240 =>
      (scr xs LN (v3 + 1)).bind fun x241 =>
      (scr xs LN (v3 + 2)).bind fun x242 =>
      (scr xs LN (v3 + 3)).bind fun x243 =>
      (ck sh 7 v2).bind fun u244 =>
      b2 (fX7_act sh v2 x241 x242 x243 i240) fun x245 i246 =>
      if x239 = x245 then (
        fL_law_b18 xs LN fuel v1 v2 (v3 + 6) sh i246 L n) else
      some ((0, 0), (0, sh, i246, L, n))) else
    if (x1 &&& 63) = 26 then (
      (scr xs LN (v3 + 1)).bind fun x247 =>
      (ck sh 6 v1).bind fun u248 =>
      (fX6_trace sh I v1 x247).bind fun x249 =>
      (scr xs LN (v3 + 1)).bind fun x250 =>
      (ck sh 7 v2).bind fun u251 =>
      (fX7_trace sh I v2 x250).bind fun x252 =>
      if x249 = x252 then (
        fL_law_b18 xs LN fuel v1 v2 (v3 + 6) sh I L n) else
      some ((0, 0), (0, sh, I, L, n))) else
    if (x1 &&& 63) = 27 then (
      (scr xs LN (v3 + 1)).bind fun x253 =>
      (scr xs LN (v3 + 2)).bind fun x254 =>
      (ck sh 6 v1).bind fun u255 =>
      (fX6_taken sh I v1 x253 x254).bind fun x256 =>
      (scr xs LN (v3 + 1)).bind fun x257 =>
      (scr xs LN (v3 + 2)).bind fun x258 =>
      (ck sh 7 v2).bind fun u259 =>
      (fX7_taken sh I v2 x257 x258).bind fun x260 =>
      if x256 = x260 then (
        fL_law_b18 xs LN fuel v1 v2 (v3 + 6) sh I L n) else
      some ((0, 0), (0, sh, I, L, n))) else
    if (x1 &&& 63) = 28 then (
      (scr xs LN (v3 + 1)).bind fun x261 =>
      (ck sh 6 v1).bind fun u262 =>
      (fX6_count sh I v1 x261).bind fun x263 =>
      (scr xs LN (v3 + 1)).bind fun x264 =>
      (ck sh 7 v2).bind fun u265 =>
      (fX7_count sh I v2 x264).bind fun x266 =>
      if x263 = x266 then (
        fL_law_b18 xs LN fuel v1 v2 (v3 + 6) sh I L n) else
      some ((0, 0), (0, sh, I, L, n))) else
    if (x1 &&& 63) = 29 then (
      (scr xs LN (v3 + 1)).bind fun x267 =>
      (scr xs LN (v3 + 2)).bind fun x268 =>
      (scr xs LN (v3 + 3)).bind fun x269 =>
      (ck sh 6 v1).bind fun u270 =>
      b3 (fX6_tape sh v1 x267 x268 x269 I L) fun x271 i272 l273 =>
      (scr xs LN (v3 + 1)).bind fun x274 =>
      (scr xs LN (v3 + 2)).bind fun x275 =>
      (scr xs LN (v3 + 3)).bind fun x276 =>
      (ck sh 7 v2).bind fun u277 =>
      b3 (fX7_tape sh v2 x274 x275 x276 i272 l273) fun x278 i279 l280 =>
      if x271 = x278 then (
        fL_law_b18 xs LN fuel v1 v2 (v3 + 6) sh i279 l280 n) else
      some ((0, 0), (0, sh, i279, l280, n))) else
    if (x1 &&& 63) = 30 then (
      (scr xs LN (v3 + 1)).bind fun x281 =>
      (scr xs LN (v3 + 2)).bind fun x282 =>
      (scr xs LN (v3 + 3)).bind fun x283 =>
      (scr xs LN (v3 + 4)).bind fun x284 =>
      (ck sh 6 v1).bind fun u285 =>
      b2 (fX6_item sh I v1 x281 x282 ((x283.toInt64 <<< (Int32.toInt64 32 &&& 63)) ||| (x284.toInt64 &&& 4294967295)) L) fun x286 l287 =>
      (scr xs LN (v3 + 1)).bind fun x288 =>
      (scr xs LN (v3 + 2)).bind fun x289 =>
      (scr xs LN (v3 + 3)).bind fun x290 =>
      (scr xs LN (v3 + 4)).bind fun x291 =>
      (ck sh 7 v2).bind fun u292 =>
      b2 (fX7_item sh I v2 x288 x289 ((x290.toInt64 <<< (Int32.toInt64 32 &&& 63)) ||| (x291.toInt64 &&& 4294967295)) l287) fun x293 l294 =>
      if x286 = x293 then (
        fL_law_b18 xs LN fuel v1 v2 (v3 + 6) sh I l294 n) else
      some ((0, 0), (0, sh, I, l294, n))) else
    if (x1 &&& 63) = 31 then (
      (scr xs LN (v3 + 1)).bind fun x295 =>
      (scr xs LN (v3 + 2)).bind fun x296 =>
      (ck sh 6 v1).bind fun u297 =>
      (fX6_read sh I L v1 x295 x296).bind fun x298 =>
      (scr xs LN (v3 + 1)).bind fun x299 =>
      (scr xs LN (v3 + 2)).bind fun x300 =>
      (ck sh 7 v2).bind fun u301 =>
      (fX7_read sh I L v2 x299 x300).bind fun x302 =>
      if (lg_cmp x298 x302) = 0 then (
        fL_law_b18 xs LN fuel v1 v2 (v3 + 6) sh I L n) else
      some ((0, 0), (0, sh, I, L, n))) else
    if (x1 &&& 63) = 32 then (
      (scr xs LN (v3 + 1)).bind fun x303 =>
      (scr xs LN (v3 + 2)).bind fun x304 =>
      (scr xs LN (v3 + 3)).bind fun x305 =>
      (scr xs LN (v3 + 4)).bind fun x306 =>
      (scr xs LN (v3 + 5)).bind fun x307 =>
      (ck sh 6 v1).bind fun u308 =>
      b2 (fX6_shift sh I v1 x303 x304 x305 x306 x307 L) fun x309 l310 =>
      (scr xs LN (v3 + 1)).bind fun x311 =>
      (scr xs LN (v3 + 2)).bind fun x312 =>
      (scr xs LN (v3 + 3)).bind fun x313 =>
      (scr xs LN (v3 + 4)).bind fun x314 =>
      (scr xs LN (v3 + 5)).bind fun x315 =>
      (ck sh 7 v2).bind fun u316 =>
      b2 (fX7_shift sh I v2 x311 x312 x313 x314 x315 l310) fun x317 l318 =>
      if x309 = x317 then (
        fL_law_b18 xs LN fuel v1 v2 (v3 + 6) sh I l318 n) else
      some ((0, 0), (0, sh, I, l318, n))) else
    fL_law_b18 xs LN fuel v1 v2 (v3 + 6) sh I L n
def fL_law (xs : Nat → Int32) (LN : Nat) (sh : SH) (I : IH) (L : LH) (n : Nat) : Option ((Nat × Nat) × (Int32 × SH × IH × LH × Nat)) :=
  b2 (some (nO sh n 6, nOI I n)) fun h1 i2 =>
  addE 1 9 (
  bE4 (fX6_init n (nO sh n 6) (nOI I n) L (n + 1)) fun h5 i6 l7 n8 =>
  b2 (some (nO h5 n8 7, nOI i6 n8)) fun h13 i14 =>
  addE 1 67 (
  bE4 (fX7_init n8 (nO h5 n8 7) (nOI i6 n8) l7 (n8 + 1)) fun h17 i18 l19 n20 =>
  fL_law_b18 xs LN 1000 n n8 0 h17 i18 l19 n20))
set_option maxHeartbeats 4000000 in
set_option maxRecDepth 20000 in
theorem jbL_law_18 (G : GT) {X : XT}  {sh' : SH} {I' : IH} {L' : LH} {n' : Nat}   {xs : Nat → Int32} {LN bs : Nat} {Q : State → Prop} (hsc : SCR G X bs LN xs) (hq : ∀ {sh : SH} {I : IH} {L : LH} {n pc : Nat} {ls : List (Nat × Value)}, decode cL_law pc = .ok (.ireturn, 1) → J G X Q 4 sh I L n 0 0 pc ls [.int 1]) (F : MF G X RL cL_law 4 700 (some .boolean) "law") : ∀ (fuel : Nat) (v1 : Nat) (v2 : Nat) (v3 : Int32) (sh : SH) (I : IH) (L : LH) (n : Nat) (e es : Nat), fL_law_b18 xs LN fuel v1 v2 v3 sh I L n = some ((e, es), (1, sh', I', L', n')) → J G X Q 4 sh I L n e es 18 [(0, .ref bs), (1, .ref v1), (2, .ref v2), (3, .int v3)] []
  | 0 => by
    intros
    rename_i h
    exact absurd (show none = some _ from h) (by intro z; cases z)
  | fuel + 1 => by
    intro v1 v2 v3 sh I L n e es h
    rw [fL_law_b18] at h
    refine j_iload_n (pc := 18) (k0 := 3) F 3 rfl dL_law_18 ?_
    refine j_aload_n (pc := 19) (k0 := 0) F 0 rfl dL_law_19 ?_
    refine j_slen (pc := 20) F hsc dL_law_20 ?_
    refine j_bipush (pc := 21) F 6 dL_law_21 (by decide) ?_
    refine j_isub (pc := 23) F dL_law_23 ?_
    refine j_icmp_gt (pc := 24) F 1247 dL_law_24 rfl (fun c => ?_) (fun c => ?_)
    · have h := iz_t c h
      refine j_iconst (pc := 1247) F 1 dL_law_1247 (by decide) ?_
      obtain ⟨g0, g1⟩ := Prod.mk.inj (Option.some.inj h)
      obtain ⟨g2, g3⟩ := Prod.mk.inj g0
      subst g2
      subst g3
      exact hq dL_law_1248
    · have h := iz_f c h
      refine j_aload_n (pc := 27) (k0 := 0) F 0 rfl dL_law_27 ?_
      refine j_iload_n (pc := 28) (k0 := 3) F 3 rfl dL_law_28 ?_
      obtain ⟨x1, hx1, h⟩ := ob h
      refine j_sld (pc := 29) F hsc hx1 dL_law_29 ?_
      refine j_bipush (pc := 30) F 63 dL_law_30 (by decide) ?_
      refine j_iand (pc := 32) F dL_law_32 ?_
      by_cases c1 : (x1 &&& 63) = 0
      · have h := iz_t c1 h
        refine j_tabIn (pc := 33) (k0 := 0) F 180 c1 dL_law_33 (by decide) rfl rfl ?_
        refine j_aload_n (pc := 180) (k0 := 1) F 1 rfl dL_law_180 ?_
        refine j_aload_n (pc := 181) (k0 := 0) F 0 rfl dL_law_181 ?_
        refine j_iload_n (pc := 182) (k0 := 3) F 3 rfl dL_law_182 ?_
        refine j_iconst (pc := 183) F 1 dL_law_183 (by decide) ?_
        refine j_iadd (pc := 184) F dL_law_184 ?_
        obtain ⟨x2, hx2, h⟩ := ob h
        refine j_sld (pc := 185) F hsc hx2 dL_law_185 ?_
        obtain ⟨u3, hu3, h⟩ := ob h
        have hou3 := ck_obt hu3
        obtain ⟨x4, i5, hx4, h⟩ := b2_obt h
        refine j_callV1 (pc := 186) (ci := 6) (As := [.int x2]) (st := []) (e1 := e) (es1 := es) F clL_13 cwX6_places rfl hou3 (ctX6_places G hx4) rfl rfl rfl rfl (Nat.zero_add _).symm (Nat.zero_add _).symm dL_law_186 ?_
        refine j_aload_n (pc := 189) (k0 := 2) F 2 rfl dL_law_189 ?_
        refine j_aload_n (pc := 190) (k0 := 0) F 0 rfl dL_law_190 ?_
        refine j_iload_n (pc := 191) (k0 := 3) F 3 rfl dL_law_191 ?_
        refine j_iconst (pc := 192) F 1 dL_law_192 (by decide) ?_
        refine j_iadd (pc := 193) F dL_law_193 ?_
        obtain ⟨x6, hx6, h⟩ := ob h
        refine j_sld (pc := 194) F hsc hx6 dL_law_194 ?_
        obtain ⟨u7, hu7, h⟩ := ob h
        have hou7 := ck_obt hu7
        obtain ⟨x8, i9, hx8, h⟩ := b2_obt h
        refine j_callV1 (pc := 195) (ci := 7) (As := [.int x6]) (st := [.int x4]) (e1 := e) (es1 := es) F clL_17 cwX7_places rfl hou7 (ctX7_places G hou7 hx8) rfl rfl rfl rfl (Nat.zero_add _).symm (Nat.zero_add _).symm dL_law_195 ?_
        refine j_icmp_eq (pc := 198) F 1241 dL_law_198 rfl (fun c => ?_) (fun c => ?_)
        · have h := iz_t c h
          refine j_iinc (pc := 1241) (k1 := 3) (ls' := [(3, .int (v3 + 6)), (0, .ref bs), (1, .ref v1), (2, .ref v2)]) F (v3 + 6) 3 rfl rfl rfl rfl dL_law_1241 ?_
          refine j_goto (pc := 1244) F 18 dL_law_1244 rfl ?_
          refine j_sub [1, 2, 3, 0] rfl ?_
          exact jbL_law_18 G hsc hq F fuel _ _ _ _ _ _ _ _ _ h
        · have h := iz_f c h
          refine j_iconst (pc := 201) F 0 dL_law_201 (by decide) ?_
          exact absurd (Prod.mk.inj (Prod.mk.inj (Option.some.inj h)).2).1 (by decide)
      have h := iz_f c1 h
      by_cases c2 : (x1 &&& 63) = 1
      · have h := iz_t c2 h
        refine j_tabIn (pc := 33) (k0 := 1) F 203 c2 dL_law_33 (by decide) rfl rfl ?_
        refine j_aload_n (pc := 203) (k0 := 1) F 1 rfl dL_law_203 ?_
        refine j_aload_n (pc := 204) (k0 := 0) F 0 rfl dL_law_204 ?_
        refine j_iload_n (pc := 205) (k0 := 3) F 3 rfl dL_law_205 ?_
        refine j_iconst (pc := 206) F 1 dL_law_206 (by decide) ?_
        refine j_iadd (pc := 207) F dL_law_207 ?_
        obtain ⟨x10, hx10, h⟩ := ob h
        refine j_sld (pc := 208) F hsc hx10 dL_law_208 ?_
        refine j_aload_n (pc := 209) (k0 := 0) F 0 rfl dL_law_209 ?_
        refine j_iload_n (pc := 210) (k0 := 3) F 3 rfl dL_law_210 ?_
        refine j_iconst (pc := 211) F 2 dL_law_211 (by decide) ?_
        refine j_iadd (pc := 212) F dL_law_212 ?_
        obtain ⟨x11, hx11, h⟩ := ob h
        refine j_sld (pc := 213) F hsc hx11 dL_law_213 ?_
        obtain ⟨u12, hu12, h⟩ := ob h
        have hou12 := ck_obt hu12
        obtain ⟨x13, i14, hx13, h⟩ := b2_obt h
        refine j_callV1 (pc := 214) (ci := 6) (As := [.int x10, .int x11]) (st := []) (e1 := e) (es1 := es) F clL_18 cwX6_sky rfl hou12 (ctX6_sky G hx13) rfl rfl rfl rfl (Nat.zero_add _).symm (Nat.zero_add _).symm dL_law_214 ?_
        refine j_aload_n (pc := 217) (k0 := 2) F 2 rfl dL_law_217 ?_
        refine j_aload_n (pc := 218) (k0 := 0) F 0 rfl dL_law_218 ?_
        refine j_iload_n (pc := 219) (k0 := 3) F 3 rfl dL_law_219 ?_
        refine j_iconst (pc := 220) F 1 dL_law_220 (by decide) ?_
        refine j_iadd (pc := 221) F dL_law_221 ?_
        obtain ⟨x15, hx15, h⟩ := ob h
        refine j_sld (pc := 222) F hsc hx15 dL_law_222 ?_
        refine j_aload_n (pc := 223) (k0 := 0) F 0 rfl dL_law_223 ?_
        refine j_iload_n (pc := 224) (k0 := 3) F 3 rfl dL_law_224 ?_
        refine j_iconst (pc := 225) F 2 dL_law_225 (by decide) ?_
        refine j_iadd (pc := 226) F dL_law_226 ?_
        obtain ⟨x16, hx16, h⟩ := ob h
        refine j_sld (pc := 227) F hsc hx16 dL_law_227 ?_
        obtain ⟨u17, hu17, h⟩ := ob h
        have hou17 := ck_obt hu17
        obtain ⟨x18, i19, hx18, h⟩ := b2_obt h
        refine j_callV1 (pc := 228) (ci := 7) (As := [.int x15, .int x16]) (st := [.int x13]) (e1 := e) (es1 := es) F clL_22 cwX7_sky rfl hou17 (ctX7_sky G hou17 hx18) rfl rfl rfl rfl (Nat.zero_add _).symm (Nat.zero_add _).symm dL_law_228 ?_
        refine j_icmp_eq (pc := 231) F 1241 dL_law_231 rfl (fun c => ?_) (fun c => ?_)
        · have h := iz_t c h
          refine j_iinc (pc := 1241) (k1 := 3) (ls' := [(3, .int (v3 + 6)), (0, .ref bs), (1, .ref v1), (2, .ref v2)]) F (v3 + 6) 3 rfl rfl rfl rfl dL_law_1241 ?_
          refine j_goto (pc := 1244) F 18 dL_law_1244 rfl ?_
          refine j_sub [1, 2, 3, 0] rfl ?_
          exact jbL_law_18 G hsc hq F fuel _ _ _ _ _ _ _ _ _ h
        · have h := iz_f c h
          refine j_iconst (pc := 234) F 0 dL_law_234 (by decide) ?_
          exact absurd (Prod.mk.inj (Prod.mk.inj (Option.some.inj h)).2).1 (by decide)
      have h := iz_f c2 h
      by_cases c3 : (x1 &&& 63) = 2
      · have h := iz_t c3 h
        refine j_tabIn (pc := 33) (k0 := 2) F 236 c3 dL_law_33 (by decide) rfl rfl ?_
        refine j_aload_n (pc := 236) (k0 := 1) F 1 rfl dL_law_236 ?_
        refine j_aload_n (pc := 237) (k0 := 0) F 0 rfl dL_law_237 ?_
        refine j_iload_n (pc := 238) (k0 := 3) F 3 rfl dL_law_238 ?_
        refine j_iconst (pc := 239) F 1 dL_law_239 (by decide) ?_
        refine j_iadd (pc := 240) F dL_law_240 ?_
        obtain ⟨x20, hx20, h⟩ := ob h
        refine j_sld (pc := 241) F hsc hx20 dL_law_241 ?_
        refine j_aload_n (pc := 242) (k0 := 0) F 0 rfl dL_law_242 ?_
        refine j_iload_n (pc := 243) (k0 := 3) F 3 rfl dL_law_243 ?_
        refine j_iconst (pc := 244) F 2 dL_law_244 (by decide) ?_
        refine j_iadd (pc := 245) F dL_law_245 ?_
        obtain ⟨x21, hx21, h⟩ := ob h
        refine j_sld (pc := 246) F hsc hx21 dL_law_246 ?_
        obtain ⟨u22, hu22, h⟩ := ob h
        have hou22 := ck_obt hu22
        obtain ⟨x23, i24, hx23, h⟩ := b2_obt h
        refine j_callV1 (pc := 247) (ci := 6) (As := [.int x20, .int x21]) (st := []) (e1 := e) (es1 := es) F clL_23 cwX6_feed rfl hou22 (ctX6_feed G hx23) rfl rfl rfl rfl (Nat.zero_add _).symm (Nat.zero_add _).symm dL_law_247 ?_
        refine j_aload_n (pc := 250) (k0 := 2) F 2 rfl dL_law_250 ?_
        refine j_aload_n (pc := 251) (k0 := 0) F 0 rfl dL_law_251 ?_
        refine j_iload_n (pc := 252) (k0 := 3) F 3 rfl dL_law_252 ?_
        refine j_iconst (pc := 253) F 1 dL_law_253 (by decide) ?_
        refine j_iadd (pc := 254) F dL_law_254 ?_
        obtain ⟨x25, hx25, h⟩ := ob h
        refine j_sld (pc := 255) F hsc hx25 dL_law_255 ?_
        refine j_aload_n (pc := 256) (k0 := 0) F 0 rfl dL_law_256 ?_
        refine j_iload_n (pc := 257) (k0 := 3) F 3 rfl dL_law_257 ?_
        refine j_iconst (pc := 258) F 2 dL_law_258 (by decide) ?_
        refine j_iadd (pc := 259) F dL_law_259 ?_
        obtain ⟨x26, hx26, h⟩ := ob h
        refine j_sld (pc := 260) F hsc hx26 dL_law_260 ?_
        obtain ⟨u27, hu27, h⟩ := ob h
        have hou27 := ck_obt hu27
        obtain ⟨x28, i29, hx28, h⟩ := b2_obt h
        refine j_callV1 (pc := 261) (ci := 7) (As := [.int x25, .int x26]) (st := [.int x23]) (e1 := e) (es1 := es) F clL_26 cwX7_feed rfl hou27 (ctX7_feed G hou27 hx28) rfl rfl rfl rfl (Nat.zero_add _).symm (Nat.zero_add _).symm dL_law_261 ?_
        refine j_icmp_eq (pc := 264) F 1241 dL_law_264 rfl (fun c => ?_) (fun c => ?_)
        · have h := iz_t c h
          refine j_iinc (pc := 1241) (k1 := 3) (ls' := [(3, .int (v3 + 6)), (0, .ref bs), (1, .ref v1), (2, .ref v2)]) F (v3 + 6) 3 rfl rfl rfl rfl dL_law_1241 ?_
          refine j_goto (pc := 1244) F 18 dL_law_1244 rfl ?_
          refine j_sub [1, 2, 3, 0] rfl ?_
          exact jbL_law_18 G hsc hq F fuel _ _ _ _ _ _ _ _ _ h
        · have h := iz_f c h
          refine j_iconst (pc := 267) F 0 dL_law_267 (by decide) ?_
          exact absurd (Prod.mk.inj (Prod.mk.inj (Option.some.inj h)).2).1 (by decide)
      have h := iz_f c3 h
      by_cases c4 : (x1 &&& 63) = 3
      · have h := iz_t c4 h
        refine j_tabIn (pc := 33) (k0 := 3) F 269 c4 dL_law_33 (by decide) rfl rfl ?_
        refine j_aload_n (pc := 269) (k0 := 1) F 1 rfl dL_law_269 ?_
        obtain ⟨u30, hu30, h⟩ := ob h
        have hou30 := ck_obt hu30
        obtain ⟨d35, ds36, x31, h32, i33, n34, e37, es38, hx31, h, he, hes⟩ := bE4_obt h
        refine j_callV1 (pc := 270) (ci := 6) (As := []) (st := []) (e1 := e37) (es1 := es38) F clL_27 cwX6_valley rfl hou30 (ctX6_valley G hx31) rfl rfl rfl rfl he hes dL_law_270 ?_
        refine j_aload_n (pc := 273) (k0 := 2) F 2 rfl dL_law_273 ?_
        obtain ⟨u39, hu39, h⟩ := ob h
        have hou39 := ck_obt hu39
        obtain ⟨x40, i41, hx40, h⟩ := b2_obt h
        refine j_callV1 (pc := 274) (ci := 7) (As := []) (st := [.int x31]) (e1 := e37) (es1 := es38) F clL_31 cwX7_valley rfl hou39 (ctX7_valley G hou39 hx40) rfl rfl rfl rfl (Nat.zero_add _).symm (Nat.zero_add _).symm dL_law_274 ?_
        refine j_icmp_eq (pc := 277) F 1241 dL_law_277 rfl (fun c => ?_) (fun c => ?_)
        · have h := iz_t c h
          refine j_iinc (pc := 1241) (k1 := 3) (ls' := [(3, .int (v3 + 6)), (0, .ref bs), (1, .ref v1), (2, .ref v2)]) F (v3 + 6) 3 rfl rfl rfl rfl dL_law_1241 ?_
          refine j_goto (pc := 1244) F 18 dL_law_1244 rfl ?_
          refine j_sub [1, 2, 3, 0] rfl ?_
          exact jbL_law_18 G hsc hq F fuel _ _ _ _ _ _ _ _ _ h
        · have h := iz_f c h
          refine j_iconst (pc := 280) F 0 dL_law_280 (by decide) ?_
          exact absurd (Prod.mk.inj (Prod.mk.inj (Option.some.inj h)).2).1 (by decide)
      have h := iz_f c4 h
      by_cases c5 : (x1 &&& 63) = 4
      · have h := iz_t c5 h
        refine j_tabIn (pc := 33) (k0 := 4) F 282 c5 dL_law_33 (by decide) rfl rfl ?_
        refine j_aload_n (pc := 282) (k0 := 1) F 1 rfl dL_law_282 ?_
        refine j_aload_n (pc := 283) (k0 := 0) F 0 rfl dL_law_283 ?_
        refine j_iload_n (pc := 284) (k0 := 3) F 3 rfl dL_law_284 ?_
        refine j_iconst (pc := 285) F 1 dL_law_285 (by decide) ?_
        refine j_iadd (pc := 286) F dL_law_286 ?_
        obtain ⟨x42, hx42, h⟩ := ob h
        refine j_sld (pc := 287) F hsc hx42 dL_law_287 ?_
        refine j_aload_n (pc := 288) (k0 := 0) F 0 rfl dL_law_288 ?_
        refine j_iload_n (pc := 289) (k0 := 3) F 3 rfl dL_law_289 ?_
        refine j_iconst (pc := 290) F 2 dL_law_290 (by decide) ?_
        refine j_iadd (pc := 291) F dL_law_291 ?_
        obtain ⟨x43, hx43, h⟩ := ob h
        refine j_sld (pc := 292) F hsc hx43 dL_law_292 ?_
        obtain ⟨u44, hu44, h⟩ := ob h
        have hou44 := ck_obt hu44
        obtain ⟨x45, hx45, h⟩ := ob h
        refine j_callV1 (pc := 293) (ci := 6) (As := [.int x42, .int x43]) (st := []) (e1 := e) (es1 := es) F clL_32 cwX6_told rfl hou44 (ctX6_told G hx45) rfl rfl rfl rfl (Nat.zero_add _).symm (Nat.zero_add _).symm dL_law_293 ?_
        refine j_aload_n (pc := 296) (k0 := 2) F 2 rfl dL_law_296 ?_
        refine j_aload_n (pc := 297) (k0 := 0) F 0 rfl dL_law_297 ?_
        refine j_iload_n (pc := 298) (k0 := 3) F 3 rfl dL_law_298 ?_
        refine j_iconst (pc := 299) F 1 dL_law_299 (by decide) ?_
        refine j_iadd (pc := 300) F dL_law_300 ?_
        obtain ⟨x46, hx46, h⟩ := ob h
        refine j_sld (pc := 301) F hsc hx46 dL_law_301 ?_
        refine j_aload_n (pc := 302) (k0 := 0) F 0 rfl dL_law_302 ?_
        refine j_iload_n (pc := 303) (k0 := 3) F 3 rfl dL_law_303 ?_
        refine j_iconst (pc := 304) F 2 dL_law_304 (by decide) ?_
        refine j_iadd (pc := 305) F dL_law_305 ?_
        obtain ⟨x47, hx47, h⟩ := ob h
        refine j_sld (pc := 306) F hsc hx47 dL_law_306 ?_
        obtain ⟨u48, hu48, h⟩ := ob h
        have hou48 := ck_obt hu48
        obtain ⟨x49, hx49, h⟩ := ob h
        refine j_callV1 (pc := 307) (ci := 7) (As := [.int x46, .int x47]) (st := [.int x45]) (e1 := e) (es1 := es) F clL_35 cwX7_told rfl hou48 (ctX7_told G hou48 hx49) rfl rfl rfl rfl (Nat.zero_add _).symm (Nat.zero_add _).symm dL_law_307 ?_
        refine j_icmp_eq (pc := 310) F 1241 dL_law_310 rfl (fun c => ?_) (fun c => ?_)
        · have h := iz_t c h
          refine j_iinc (pc := 1241) (k1 := 3) (ls' := [(3, .int (v3 + 6)), (0, .ref bs), (1, .ref v1), (2, .ref v2)]) F (v3 + 6) 3 rfl rfl rfl rfl dL_law_1241 ?_
          refine j_goto (pc := 1244) F 18 dL_law_1244 rfl ?_
          refine j_sub [1, 2, 3, 0] rfl ?_
          exact jbL_law_18 G hsc hq F fuel _ _ _ _ _ _ _ _ _ h
        · have h := iz_f c h
          refine j_iconst (pc := 313) F 0 dL_law_313 (by decide) ?_
          exact absurd (Prod.mk.inj (Prod.mk.inj (Option.some.inj h)).2).1 (by decide)
      have h := iz_f c5 h
      by_cases c6 : (x1 &&& 63) = 5
      · have h := iz_t c6 h
        refine j_tabIn (pc := 33) (k0 := 5) F 315 c6 dL_law_33 (by decide) rfl rfl ?_
        refine j_aload_n (pc := 315) (k0 := 1) F 1 rfl dL_law_315 ?_
        refine j_aload_n (pc := 316) (k0 := 0) F 0 rfl dL_law_316 ?_
        refine j_iload_n (pc := 317) (k0 := 3) F 3 rfl dL_law_317 ?_
        refine j_iconst (pc := 318) F 1 dL_law_318 (by decide) ?_
        refine j_iadd (pc := 319) F dL_law_319 ?_
        obtain ⟨x50, hx50, h⟩ := ob h
        refine j_sld (pc := 320) F hsc hx50 dL_law_320 ?_
        obtain ⟨u51, hu51, h⟩ := ob h
        have hou51 := ck_obt hu51
        obtain ⟨x52, hx52, h⟩ := ob h
        refine j_callV1 (pc := 321) (ci := 6) (As := [.int x50]) (st := []) (e1 := e) (es1 := es) F clL_36 cwX6_melts rfl hou51 (ctX6_melts G hx52) rfl rfl rfl rfl (Nat.zero_add _).symm (Nat.zero_add _).symm dL_law_321 ?_
        refine j_aload_n (pc := 324) (k0 := 2) F 2 rfl dL_law_324 ?_
        refine j_aload_n (pc := 325) (k0 := 0) F 0 rfl dL_law_325 ?_
        refine j_iload_n (pc := 326) (k0 := 3) F 3 rfl dL_law_326 ?_
        refine j_iconst (pc := 327) F 1 dL_law_327 (by decide) ?_
        refine j_iadd (pc := 328) F dL_law_328 ?_
        obtain ⟨x53, hx53, h⟩ := ob h
        refine j_sld (pc := 329) F hsc hx53 dL_law_329 ?_
        obtain ⟨u54, hu54, h⟩ := ob h
        have hou54 := ck_obt hu54
        obtain ⟨x55, i56, hx55, h⟩ := b2_obt h
        refine j_callV1 (pc := 330) (ci := 7) (As := [.int x53]) (st := [.int x52]) (e1 := e) (es1 := es) F clL_39 cwX7_melts rfl hou54 (ctX7_melts G hou54 hx55) rfl rfl rfl rfl (Nat.zero_add _).symm (Nat.zero_add _).symm dL_law_330 ?_
        refine j_icmp_eq (pc := 333) F 1241 dL_law_333 rfl (fun c => ?_) (fun c => ?_)
        · have h := iz_t c h
          refine j_iinc (pc := 1241) (k1 := 3) (ls' := [(3, .int (v3 + 6)), (0, .ref bs), (1, .ref v1), (2, .ref v2)]) F (v3 + 6) 3 rfl rfl rfl rfl dL_law_1241 ?_
          refine j_goto (pc := 1244) F 18 dL_law_1244 rfl ?_
          refine j_sub [1, 2, 3, 0] rfl ?_
          exact jbL_law_18 G hsc hq F fuel _ _ _ _ _ _ _ _ _ h
        · have h := iz_f c h
          refine j_iconst (pc := 336) F 0 dL_law_336 (by decide) ?_
          exact absurd (Prod.mk.inj (Prod.mk.inj (Option.some.inj h)).2).1 (by decide)
      have h := iz_f c6 h
      by_cases c7 : (x1 &&& 63) = 6
      · have h := iz_t c7 h
        refine j_tabIn (pc := 33) (k0 := 6) F 338 c7 dL_law_33 (by decide) rfl rfl ?_
        refine j_aload_n (pc := 338) (k0 := 1) F 1 rfl dL_law_338 ?_
        refine j_aload_n (pc := 339) (k0 := 0) F 0 rfl dL_law_339 ?_
        refine j_iload_n (pc := 340) (k0 := 3) F 3 rfl dL_law_340 ?_
        refine j_iconst (pc := 341) F 1 dL_law_341 (by decide) ?_
        refine j_iadd (pc := 342) F dL_law_342 ?_
        obtain ⟨x57, hx57, h⟩ := ob h
        refine j_sld (pc := 343) F hsc hx57 dL_law_343 ?_
        refine j_aload_n (pc := 344) (k0 := 0) F 0 rfl dL_law_344 ?_
        refine j_iload_n (pc := 345) (k0 := 3) F 3 rfl dL_law_345 ?_
        refine j_iconst (pc := 346) F 2 dL_law_346 (by decide) ?_
        refine j_iadd (pc := 347) F dL_law_347 ?_
        obtain ⟨x58, hx58, h⟩ := ob h
        refine j_sld (pc := 348) F hsc hx58 dL_law_348 ?_
        refine j_aload_n (pc := 349) (k0 := 0) F 0 rfl dL_law_349 ?_
        refine j_iload_n (pc := 350) (k0 := 3) F 3 rfl dL_law_350 ?_
        refine j_iconst (pc := 351) F 3 dL_law_351 (by decide) ?_
        refine j_iadd (pc := 352) F dL_law_352 ?_
        obtain ⟨x59, hx59, h⟩ := ob h
        refine j_sld (pc := 353) F hsc hx59 dL_law_353 ?_
        refine j_aload_n (pc := 354) (k0 := 0) F 0 rfl dL_law_354 ?_
        refine j_iload_n (pc := 355) (k0 := 3) F 3 rfl dL_law_355 ?_
        refine j_iconst (pc := 356) F 4 dL_law_356 (by decide) ?_
        refine j_iadd (pc := 357) F dL_law_357 ?_
        obtain ⟨x60, hx60, h⟩ := ob h
        refine j_sld (pc := 358) F hsc hx60 dL_law_358 ?_
        obtain ⟨u61, hu61, h⟩ := ob h
        have hou61 := ck_obt hu61
        obtain ⟨x62, i63, hx62, h⟩ := b2_obt h
        refine j_callV1 (pc := 359) (ci := 6) (As := [.int x57, .int x58, .int x59, .int x60]) (st := []) (e1 := e) (es1 := es) F clL_40 cwX6_gate rfl hou61 (ctX6_gate G hx62) rfl rfl rfl rfl (Nat.zero_add _).symm (Nat.zero_add _).symm dL_law_359 ?_
        refine j_aload_n (pc := 362) (k0 := 2) F 2 rfl dL_law_362 ?_
        refine j_aload_n (pc := 363) (k0 := 0) F 0 rfl dL_law_363 ?_
        refine j_iload_n (pc := 364) (k0 := 3) F 3 rfl dL_law_364 ?_
        refine j_iconst (pc := 365) F 1 dL_law_365 (by decide) ?_
        refine j_iadd (pc := 366) F dL_law_366 ?_
        obtain ⟨x64, hx64, h⟩ := ob h
        refine j_sld (pc := 367) F hsc hx64 dL_law_367 ?_
        refine j_aload_n (pc := 368) (k0 := 0) F 0 rfl dL_law_368 ?_
        refine j_iload_n (pc := 369) (k0 := 3) F 3 rfl dL_law_369 ?_
        refine j_iconst (pc := 370) F 2 dL_law_370 (by decide) ?_
        refine j_iadd (pc := 371) F dL_law_371 ?_
        obtain ⟨x65, hx65, h⟩ := ob h
        refine j_sld (pc := 372) F hsc hx65 dL_law_372 ?_
        refine j_aload_n (pc := 373) (k0 := 0) F 0 rfl dL_law_373 ?_
        refine j_iload_n (pc := 374) (k0 := 3) F 3 rfl dL_law_374 ?_
        refine j_iconst (pc := 375) F 3 dL_law_375 (by decide) ?_
        refine j_iadd (pc := 376) F dL_law_376 ?_
        obtain ⟨x66, hx66, h⟩ := ob h
        refine j_sld (pc := 377) F hsc hx66 dL_law_377 ?_
        refine j_aload_n (pc := 378) (k0 := 0) F 0 rfl dL_law_378 ?_
        refine j_iload_n (pc := 379) (k0 := 3) F 3 rfl dL_law_379 ?_
        refine j_iconst (pc := 380) F 4 dL_law_380 (by decide) ?_
        refine j_iadd (pc := 381) F dL_law_381 ?_
        obtain ⟨x67, hx67, h⟩ := ob h
        refine j_sld (pc := 382) F hsc hx67 dL_law_382 ?_
        obtain ⟨u68, hu68, h⟩ := ob h
        have hou68 := ck_obt hu68
        obtain ⟨x69, i70, hx69, h⟩ := b2_obt h
        refine j_callV1 (pc := 383) (ci := 7) (As := [.int x64, .int x65, .int x66, .int x67]) (st := [.int x62]) (e1 := e) (es1 := es) F clL_44 cwX7_gate rfl hou68 (ctX7_gate G hou68 hx69) rfl rfl rfl rfl (Nat.zero_add _).symm (Nat.zero_add _).symm dL_law_383 ?_
        refine j_icmp_eq (pc := 386) F 1241 dL_law_386 rfl (fun c => ?_) (fun c => ?_)
        · have h := iz_t c h
          refine j_iinc (pc := 1241) (k1 := 3) (ls' := [(3, .int (v3 + 6)), (0, .ref bs), (1, .ref v1), (2, .ref v2)]) F (v3 + 6) 3 rfl rfl rfl rfl dL_law_1241 ?_
          refine j_goto (pc := 1244) F 18 dL_law_1244 rfl ?_
          refine j_sub [1, 2, 3, 0] rfl ?_
          exact jbL_law_18 G hsc hq F fuel _ _ _ _ _ _ _ _ _ h
        · have h := iz_f c h
          refine j_iconst (pc := 389) F 0 dL_law_389 (by decide) ?_
          exact absurd (Prod.mk.inj (Prod.mk.inj (Option.some.inj h)).2).1 (by decide)
      have h := iz_f c7 h
      by_cases c8 : (x1 &&& 63) = 7
      · have h := iz_t c8 h
        refine j_tabIn (pc := 33) (k0 := 7) F 391 c8 dL_law_33 (by decide) rfl rfl ?_
        refine j_aload_n (pc := 391) (k0 := 1) F 1 rfl dL_law_391 ?_
        refine j_aload_n (pc := 392) (k0 := 0) F 0 rfl dL_law_392 ?_
        refine j_iload_n (pc := 393) (k0 := 3) F 3 rfl dL_law_393 ?_
        refine j_iconst (pc := 394) F 1 dL_law_394 (by decide) ?_
        refine j_iadd (pc := 395) F dL_law_395 ?_
        obtain ⟨x71, hx71, h⟩ := ob h
        refine j_sld (pc := 396) F hsc hx71 dL_law_396 ?_
        refine j_aload_n (pc := 397) (k0 := 0) F 0 rfl dL_law_397 ?_
        refine j_iload_n (pc := 398) (k0 := 3) F 3 rfl dL_law_398 ?_
        refine j_iconst (pc := 399) F 2 dL_law_399 (by decide) ?_
        refine j_iadd (pc := 400) F dL_law_400 ?_
        obtain ⟨x72, hx72, h⟩ := ob h
        refine j_sld (pc := 401) F hsc hx72 dL_law_401 ?_
        obtain ⟨u73, hu73, h⟩ := ob h
        have hou73 := ck_obt hu73
        obtain ⟨x74, hx74, h⟩ := ob h
        refine j_callV1 (pc := 402) (ci := 6) (As := [.int x71, .int x72]) (st := []) (e1 := e) (es1 := es) F clL_45 cwX6_of rfl hou73 (ctX6_of G hx74) rfl rfl rfl rfl (Nat.zero_add _).symm (Nat.zero_add _).symm dL_law_402 ?_
        refine j_aload_n (pc := 405) (k0 := 2) F 2 rfl dL_law_405 ?_
        refine j_aload_n (pc := 406) (k0 := 0) F 0 rfl dL_law_406 ?_
        refine j_iload_n (pc := 407) (k0 := 3) F 3 rfl dL_law_407 ?_
        refine j_iconst (pc := 408) F 1 dL_law_408 (by decide) ?_
        refine j_iadd (pc := 409) F dL_law_409 ?_
        obtain ⟨x75, hx75, h⟩ := ob h
        refine j_sld (pc := 410) F hsc hx75 dL_law_410 ?_
        refine j_aload_n (pc := 411) (k0 := 0) F 0 rfl dL_law_411 ?_
        refine j_iload_n (pc := 412) (k0 := 3) F 3 rfl dL_law_412 ?_
        refine j_iconst (pc := 413) F 2 dL_law_413 (by decide) ?_
        refine j_iadd (pc := 414) F dL_law_414 ?_
        obtain ⟨x76, hx76, h⟩ := ob h
        refine j_sld (pc := 415) F hsc hx76 dL_law_415 ?_
        obtain ⟨u77, hu77, h⟩ := ob h
        have hou77 := ck_obt hu77
        obtain ⟨x78, hx78, h⟩ := ob h
        refine j_callV1 (pc := 416) (ci := 7) (As := [.int x75, .int x76]) (st := [.int x74]) (e1 := e) (es1 := es) F clL_48 cwX7_of rfl hou77 (ctX7_of G hou77 hx78) rfl rfl rfl rfl (Nat.zero_add _).symm (Nat.zero_add _).symm dL_law_416 ?_
        refine j_icmp_eq (pc := 419) F 1241 dL_law_419 rfl (fun c => ?_) (fun c => ?_)
        · have h := iz_t c h
          refine j_iinc (pc := 1241) (k1 := 3) (ls' := [(3, .int (v3 + 6)), (0, .ref bs), (1, .ref v1), (2, .ref v2)]) F (v3 + 6) 3 rfl rfl rfl rfl dL_law_1241 ?_
          refine j_goto (pc := 1244) F 18 dL_law_1244 rfl ?_
          refine j_sub [1, 2, 3, 0] rfl ?_
          exact jbL_law_18 G hsc hq F fuel _ _ _ _ _ _ _ _ _ h
        · have h := iz_f c h
          refine j_iconst (pc := 422) F 0 dL_law_422 (by decide) ?_
          exact absurd (Prod.mk.inj (Prod.mk.inj (Option.some.inj h)).2).1 (by decide)
      have h := iz_f c8 h
      by_cases c9 : (x1 &&& 63) = 8
      · have h := iz_t c9 h
        refine j_tabIn (pc := 33) (k0 := 8) F 424 c9 dL_law_33 (by decide) rfl rfl ?_
        refine j_aload_n (pc := 424) (k0 := 1) F 1 rfl dL_law_424 ?_
        refine j_aload_n (pc := 425) (k0 := 0) F 0 rfl dL_law_425 ?_
        refine j_iload_n (pc := 426) (k0 := 3) F 3 rfl dL_law_426 ?_
        refine j_iconst (pc := 427) F 1 dL_law_427 (by decide) ?_
        refine j_iadd (pc := 428) F dL_law_428 ?_
        obtain ⟨x79, hx79, h⟩ := ob h
        refine j_sld (pc := 429) F hsc hx79 dL_law_429 ?_
        refine j_aload_n (pc := 430) (k0 := 0) F 0 rfl dL_law_430 ?_
        refine j_iload_n (pc := 431) (k0 := 3) F 3 rfl dL_law_431 ?_
        refine j_iconst (pc := 432) F 2 dL_law_432 (by decide) ?_
        refine j_iadd (pc := 433) F dL_law_433 ?_
        obtain ⟨x80, hx80, h⟩ := ob h
        refine j_sld (pc := 434) F hsc hx80 dL_law_434 ?_
        refine j_aload_n (pc := 435) (k0 := 0) F 0 rfl dL_law_435 ?_
        refine j_iload_n (pc := 436) (k0 := 3) F 3 rfl dL_law_436 ?_
        refine j_iconst (pc := 437) F 3 dL_law_437 (by decide) ?_
        refine j_iadd (pc := 438) F dL_law_438 ?_
        obtain ⟨x81, hx81, h⟩ := ob h
        refine j_sld (pc := 439) F hsc hx81 dL_law_439 ?_
        obtain ⟨u82, hu82, h⟩ := ob h
        have hou82 := ck_obt hu82
        obtain ⟨x83, i84, hx83, h⟩ := b2_obt h
        refine j_callV1 (pc := 440) (ci := 6) (As := [.int x79, .int x80, .int x81]) (st := []) (e1 := e) (es1 := es) F clL_49 cwX6_water rfl hou82 (ctX6_water G hx83) rfl rfl rfl rfl (Nat.zero_add _).symm (Nat.zero_add _).symm dL_law_440 ?_
        refine j_aload_n (pc := 443) (k0 := 2) F 2 rfl dL_law_443 ?_
        refine j_aload_n (pc := 444) (k0 := 0) F 0 rfl dL_law_444 ?_
        refine j_iload_n (pc := 445) (k0 := 3) F 3 rfl dL_law_445 ?_
        refine j_iconst (pc := 446) F 1 dL_law_446 (by decide) ?_
        refine j_iadd (pc := 447) F dL_law_447 ?_
        obtain ⟨x85, hx85, h⟩ := ob h
        refine j_sld (pc := 448) F hsc hx85 dL_law_448 ?_
        refine j_aload_n (pc := 449) (k0 := 0) F 0 rfl dL_law_449 ?_
        refine j_iload_n (pc := 450) (k0 := 3) F 3 rfl dL_law_450 ?_
        refine j_iconst (pc := 451) F 2 dL_law_451 (by decide) ?_
        refine j_iadd (pc := 452) F dL_law_452 ?_
        obtain ⟨x86, hx86, h⟩ := ob h
        refine j_sld (pc := 453) F hsc hx86 dL_law_453 ?_
        refine j_aload_n (pc := 454) (k0 := 0) F 0 rfl dL_law_454 ?_
        refine j_iload_n (pc := 455) (k0 := 3) F 3 rfl dL_law_455 ?_
        refine j_iconst (pc := 456) F 3 dL_law_456 (by decide) ?_
        refine j_iadd (pc := 457) F dL_law_457 ?_
        obtain ⟨x87, hx87, h⟩ := ob h
        refine j_sld (pc := 458) F hsc hx87 dL_law_458 ?_
        obtain ⟨u88, hu88, h⟩ := ob h
        have hou88 := ck_obt hu88
        obtain ⟨x89, i90, hx89, h⟩ := b2_obt h
        refine j_callV1 (pc := 459) (ci := 7) (As := [.int x85, .int x86, .int x87]) (st := [.int x83]) (e1 := e) (es1 := es) F clL_53 cwX7_water rfl hou88 (ctX7_water G hou88 hx89) rfl rfl rfl rfl (Nat.zero_add _).symm (Nat.zero_add _).symm dL_law_459 ?_
        refine j_icmp_eq (pc := 462) F 1241 dL_law_462 rfl (fun c => ?_) (fun c => ?_)
        · have h := iz_t c h
          refine j_iinc (pc := 1241) (k1 := 3) (ls' := [(3, .int (v3 + 6)), (0, .ref bs), (1, .ref v1), (2, .ref v2)]) F (v3 + 6) 3 rfl rfl rfl rfl dL_law_1241 ?_
          refine j_goto (pc := 1244) F 18 dL_law_1244 rfl ?_
          refine j_sub [1, 2, 3, 0] rfl ?_
          exact jbL_law_18 G hsc hq F fuel _ _ _ _ _ _ _ _ _ h
        · have h := iz_f c h
          refine j_iconst (pc := 465) F 0 dL_law_465 (by decide) ?_
          exact absurd (Prod.mk.inj (Prod.mk.inj (Option.some.inj h)).2).1 (by decide)
      have h := iz_f c9 h
      by_cases c10 : (x1 &&& 63) = 9
      · have h := iz_t c10 h
        refine j_tabIn (pc := 33) (k0 := 9) F 467 c10 dL_law_33 (by decide) rfl rfl ?_
        refine j_aload_n (pc := 467) (k0 := 1) F 1 rfl dL_law_467 ?_
        refine j_aload_n (pc := 468) (k0 := 0) F 0 rfl dL_law_468 ?_
        refine j_iload_n (pc := 469) (k0 := 3) F 3 rfl dL_law_469 ?_
        refine j_iconst (pc := 470) F 1 dL_law_470 (by decide) ?_
        refine j_iadd (pc := 471) F dL_law_471 ?_
        obtain ⟨x91, hx91, h⟩ := ob h
        refine j_sld (pc := 472) F hsc hx91 dL_law_472 ?_
        obtain ⟨u92, hu92, h⟩ := ob h
        have hou92 := ck_obt hu92
        obtain ⟨x93, i94, hx93, h⟩ := b2_obt h
        refine j_callV1 (pc := 473) (ci := 6) (As := [.int x91]) (st := []) (e1 := e) (es1 := es) F clL_54 cwX6_all rfl hou92 (ctX6_all G hx93) rfl rfl rfl rfl (Nat.zero_add _).symm (Nat.zero_add _).symm dL_law_473 ?_
        refine j_aload_n (pc := 476) (k0 := 2) F 2 rfl dL_law_476 ?_
        refine j_aload_n (pc := 477) (k0 := 0) F 0 rfl dL_law_477 ?_
        refine j_iload_n (pc := 478) (k0 := 3) F 3 rfl dL_law_478 ?_
        refine j_iconst (pc := 479) F 1 dL_law_479 (by decide) ?_
        refine j_iadd (pc := 480) F dL_law_480 ?_
        obtain ⟨x95, hx95, h⟩ := ob h
        refine j_sld (pc := 481) F hsc hx95 dL_law_481 ?_
        obtain ⟨u96, hu96, h⟩ := ob h
        have hou96 := ck_obt hu96
        obtain ⟨x97, i98, hx97, h⟩ := b2_obt h
        refine j_callV1 (pc := 482) (ci := 7) (As := [.int x95]) (st := [.int x93]) (e1 := e) (es1 := es) F clL_57 cwX7_all rfl hou96 (ctX7_all G hou96 hx97) rfl rfl rfl rfl (Nat.zero_add _).symm (Nat.zero_add _).symm dL_law_482 ?_
        refine j_icmp_eq (pc := 485) F 1241 dL_law_485 rfl (fun c => ?_) (fun c => ?_)
        · have h := iz_t c h
          refine j_iinc (pc := 1241) (k1 := 3) (ls' := [(3, .int (v3 + 6)), (0, .ref bs), (1, .ref v1), (2, .ref v2)]) F (v3 + 6) 3 rfl rfl rfl rfl dL_law_1241 ?_
          refine j_goto (pc := 1244) F 18 dL_law_1244 rfl ?_
          refine j_sub [1, 2, 3, 0] rfl ?_
          exact jbL_law_18 G hsc hq F fuel _ _ _ _ _ _ _ _ _ h
        · have h := iz_f c h
          refine j_iconst (pc := 488) F 0 dL_law_488 (by decide) ?_
          exact absurd (Prod.mk.inj (Prod.mk.inj (Option.some.inj h)).2).1 (by decide)
      have h := iz_f c10 h
      by_cases c11 : (x1 &&& 63) = 10
      · have h := iz_t c11 h
        refine j_tabIn (pc := 33) (k0 := 10) F 490 c11 dL_law_33 (by decide) rfl rfl ?_
        refine j_aload_n (pc := 490) (k0 := 1) F 1 rfl dL_law_490 ?_
        refine j_aload_n (pc := 491) (k0 := 0) F 0 rfl dL_law_491 ?_
        refine j_iload_n (pc := 492) (k0 := 3) F 3 rfl dL_law_492 ?_
        refine j_iconst (pc := 493) F 1 dL_law_493 (by decide) ?_
        refine j_iadd (pc := 494) F dL_law_494 ?_
        obtain ⟨x99, hx99, h⟩ := ob h
        refine j_sld (pc := 495) F hsc hx99 dL_law_495 ?_
        refine j_aload_n (pc := 496) (k0 := 0) F 0 rfl dL_law_496 ?_
        refine j_iload_n (pc := 497) (k0 := 3) F 3 rfl dL_law_497 ?_
        refine j_iconst (pc := 498) F 2 dL_law_498 (by decide) ?_
        refine j_iadd (pc := 499) F dL_law_499 ?_
        obtain ⟨x100, hx100, h⟩ := ob h
        refine j_sld (pc := 500) F hsc hx100 dL_law_500 ?_
        refine j_aload_n (pc := 501) (k0 := 0) F 0 rfl dL_law_501 ?_
        refine j_iload_n (pc := 502) (k0 := 3) F 3 rfl dL_law_502 ?_
        refine j_iconst (pc := 503) F 3 dL_law_503 (by decide) ?_
        refine j_iadd (pc := 504) F dL_law_504 ?_
        obtain ⟨x101, hx101, h⟩ := ob h
        refine j_sld (pc := 505) F hsc hx101 dL_law_505 ?_
        refine j_aload_n (pc := 506) (k0 := 0) F 0 rfl dL_law_506 ?_
        refine j_iload_n (pc := 507) (k0 := 3) F 3 rfl dL_law_507 ?_
        refine j_iconst (pc := 508) F 4 dL_law_508 (by decide) ?_
        refine j_iadd (pc := 509) F dL_law_509 ?_
        obtain ⟨x102, hx102, h⟩ := ob h
        refine j_sld (pc := 510) F hsc hx102 dL_law_510 ?_
        obtain ⟨u103, hu103, h⟩ := ob h
        have hou103 := ck_obt hu103
        obtain ⟨x104, i105, hx104, h⟩ := b2_obt h
        refine j_callV1 (pc := 511) (ci := 6) (As := [.int x99, .int x100, .int x101, .int x102]) (st := []) (e1 := e) (es1 := es) F clL_58 cwX6_want rfl hou103 (ctX6_want G hx104) rfl rfl rfl rfl (Nat.zero_add _).symm (Nat.zero_add _).symm dL_law_511 ?_
        refine j_aload_n (pc := 514) (k0 := 2) F 2 rfl dL_law_514 ?_
        refine j_aload_n (pc := 515) (k0 := 0) F 0 rfl dL_law_515 ?_
        refine j_iload_n (pc := 516) (k0 := 3) F 3 rfl dL_law_516 ?_
        refine j_iconst (pc := 517) F 1 dL_law_517 (by decide) ?_
        refine j_iadd (pc := 518) F dL_law_518 ?_
        obtain ⟨x106, hx106, h⟩ := ob h
        refine j_sld (pc := 519) F hsc hx106 dL_law_519 ?_
        refine j_aload_n (pc := 520) (k0 := 0) F 0 rfl dL_law_520 ?_
        refine j_iload_n (pc := 521) (k0 := 3) F 3 rfl dL_law_521 ?_
        refine j_iconst (pc := 522) F 2 dL_law_522 (by decide) ?_
        refine j_iadd (pc := 523) F dL_law_523 ?_
        obtain ⟨x107, hx107, h⟩ := ob h
        refine j_sld (pc := 524) F hsc hx107 dL_law_524 ?_
        refine j_aload_n (pc := 525) (k0 := 0) F 0 rfl dL_law_525 ?_
        refine j_iload_n (pc := 526) (k0 := 3) F 3 rfl dL_law_526 ?_
        refine j_iconst (pc := 527) F 3 dL_law_527 (by decide) ?_
        refine j_iadd (pc := 528) F dL_law_528 ?_
        obtain ⟨x108, hx108, h⟩ := ob h
        refine j_sld (pc := 529) F hsc hx108 dL_law_529 ?_
        refine j_aload_n (pc := 530) (k0 := 0) F 0 rfl dL_law_530 ?_
        refine j_iload_n (pc := 531) (k0 := 3) F 3 rfl dL_law_531 ?_
        refine j_iconst (pc := 532) F 4 dL_law_532 (by decide) ?_
        refine j_iadd (pc := 533) F dL_law_533 ?_
        obtain ⟨x109, hx109, h⟩ := ob h
        refine j_sld (pc := 534) F hsc hx109 dL_law_534 ?_
        obtain ⟨u110, hu110, h⟩ := ob h
        have hou110 := ck_obt hu110
        obtain ⟨x111, i112, hx111, h⟩ := b2_obt h
        refine j_callV1 (pc := 535) (ci := 7) (As := [.int x106, .int x107, .int x108, .int x109]) (st := [.int x104]) (e1 := e) (es1 := es) F clL_61 cwX7_want rfl hou110 (ctX7_want G hou110 hx111) rfl rfl rfl rfl (Nat.zero_add _).symm (Nat.zero_add _).symm dL_law_535 ?_
        refine j_icmp_eq (pc := 538) F 1241 dL_law_538 rfl (fun c => ?_) (fun c => ?_)
        · have h := iz_t c h
          refine j_iinc (pc := 1241) (k1 := 3) (ls' := [(3, .int (v3 + 6)), (0, .ref bs), (1, .ref v1), (2, .ref v2)]) F (v3 + 6) 3 rfl rfl rfl rfl dL_law_1241 ?_
          refine j_goto (pc := 1244) F 18 dL_law_1244 rfl ?_
          refine j_sub [1, 2, 3, 0] rfl ?_
          exact jbL_law_18 G hsc hq F fuel _ _ _ _ _ _ _ _ _ h
        · have h := iz_f c h
          refine j_iconst (pc := 541) F 0 dL_law_541 (by decide) ?_
          exact absurd (Prod.mk.inj (Prod.mk.inj (Option.some.inj h)).2).1 (by decide)
      have h := iz_f c11 h
      by_cases c12 : (x1 &&& 63) = 11
      · have h := iz_t c12 h
        refine j_tabIn (pc := 33) (k0 := 11) F 543 c12 dL_law_33 (by decide) rfl rfl ?_
        refine j_aload_n (pc := 543) (k0 := 1) F 1 rfl dL_law_543 ?_
        refine j_aload_n (pc := 544) (k0 := 0) F 0 rfl dL_law_544 ?_
        refine j_iload_n (pc := 545) (k0 := 3) F 3 rfl dL_law_545 ?_
        refine j_iconst (pc := 546) F 1 dL_law_546 (by decide) ?_
        refine j_iadd (pc := 547) F dL_law_547 ?_
        obtain ⟨x113, hx113, h⟩ := ob h
        refine j_sld (pc := 548) F hsc hx113 dL_law_548 ?_
        refine j_aload_n (pc := 549) (k0 := 0) F 0 rfl dL_law_549 ?_
        refine j_iload_n (pc := 550) (k0 := 3) F 3 rfl dL_law_550 ?_
        refine j_iconst (pc := 551) F 2 dL_law_551 (by decide) ?_
        refine j_iadd (pc := 552) F dL_law_552 ?_
        obtain ⟨x114, hx114, h⟩ := ob h
        refine j_sld (pc := 553) F hsc hx114 dL_law_553 ?_
        obtain ⟨u115, hu115, h⟩ := ob h
        have hou115 := ck_obt hu115
        obtain ⟨x116, i117, hx116, h⟩ := b2_obt h
        refine j_callV1 (pc := 554) (ci := 6) (As := [.int x113, .int x114]) (st := []) (e1 := e) (es1 := es) F clL_62 cwX6_wants rfl hou115 (ctX6_wants G hx116) rfl rfl rfl rfl (Nat.zero_add _).symm (Nat.zero_add _).symm dL_law_554 ?_
        refine j_aload_n (pc := 557) (k0 := 2) F 2 rfl dL_law_557 ?_
        refine j_aload_n (pc := 558) (k0 := 0) F 0 rfl dL_law_558 ?_
        refine j_iload_n (pc := 559) (k0 := 3) F 3 rfl dL_law_559 ?_
        refine j_iconst (pc := 560) F 1 dL_law_560 (by decide) ?_
        refine j_iadd (pc := 561) F dL_law_561 ?_
        obtain ⟨x118, hx118, h⟩ := ob h
        refine j_sld (pc := 562) F hsc hx118 dL_law_562 ?_
        refine j_aload_n (pc := 563) (k0 := 0) F 0 rfl dL_law_563 ?_
        refine j_iload_n (pc := 564) (k0 := 3) F 3 rfl dL_law_564 ?_
        refine j_iconst (pc := 565) F 2 dL_law_565 (by decide) ?_
        refine j_iadd (pc := 566) F dL_law_566 ?_
        obtain ⟨x119, hx119, h⟩ := ob h
        refine j_sld (pc := 567) F hsc hx119 dL_law_567 ?_
        obtain ⟨u120, hu120, h⟩ := ob h
        have hou120 := ck_obt hu120
        obtain ⟨x121, i122, hx121, h⟩ := b2_obt h
        refine j_callV1 (pc := 568) (ci := 7) (As := [.int x118, .int x119]) (st := [.int x116]) (e1 := e) (es1 := es) F clL_65 cwX7_wants rfl hou120 (ctX7_wants G hou120 hx121) rfl rfl rfl rfl (Nat.zero_add _).symm (Nat.zero_add _).symm dL_law_568 ?_
        refine j_icmp_eq (pc := 571) F 1241 dL_law_571 rfl (fun c => ?_) (fun c => ?_)
        · have h := iz_t c h
          refine j_iinc (pc := 1241) (k1 := 3) (ls' := [(3, .int (v3 + 6)), (0, .ref bs), (1, .ref v1), (2, .ref v2)]) F (v3 + 6) 3 rfl rfl rfl rfl dL_law_1241 ?_
          refine j_goto (pc := 1244) F 18 dL_law_1244 rfl ?_
          refine j_sub [1, 2, 3, 0] rfl ?_
          exact jbL_law_18 G hsc hq F fuel _ _ _ _ _ _ _ _ _ h
        · have h := iz_f c h
          refine j_iconst (pc := 574) F 0 dL_law_574 (by decide) ?_
          exact absurd (Prod.mk.inj (Prod.mk.inj (Option.some.inj h)).2).1 (by decide)
      have h := iz_f c12 h
      by_cases c13 : (x1 &&& 63) = 12
      · have h := iz_t c13 h
        refine j_tabIn (pc := 33) (k0 := 12) F 576 c13 dL_law_33 (by decide) rfl rfl ?_
        refine j_aload_n (pc := 576) (k0 := 1) F 1 rfl dL_law_576 ?_
        obtain ⟨u123, hu123, h⟩ := ob h
        have hou123 := ck_obt hu123
        obtain ⟨x124, i125, hx124, h⟩ := b2_obt h
        refine j_callV1 (pc := 577) (ci := 6) (As := []) (st := []) (e1 := e) (es1 := es) F clL_66 cwX6_worth rfl hou123 (ctX6_worth G hx124) rfl rfl rfl rfl (Nat.zero_add _).symm (Nat.zero_add _).symm dL_law_577 ?_
        refine j_aload_n (pc := 580) (k0 := 2) F 2 rfl dL_law_580 ?_
        obtain ⟨u126, hu126, h⟩ := ob h
        have hou126 := ck_obt hu126
        obtain ⟨x127, i128, hx127, h⟩ := b2_obt h
        refine j_callV1 (pc := 581) (ci := 7) (As := []) (st := [.int x124]) (e1 := e) (es1 := es) F clL_69 cwX7_worth rfl hou126 (ctX7_worth G hou126 hx127) rfl rfl rfl rfl (Nat.zero_add _).symm (Nat.zero_add _).symm dL_law_581 ?_
        refine j_icmp_eq (pc := 584) F 1241 dL_law_584 rfl (fun c => ?_) (fun c => ?_)
        · have h := iz_t c h
          refine j_iinc (pc := 1241) (k1 := 3) (ls' := [(3, .int (v3 + 6)), (0, .ref bs), (1, .ref v1), (2, .ref v2)]) F (v3 + 6) 3 rfl rfl rfl rfl dL_law_1241 ?_
          refine j_goto (pc := 1244) F 18 dL_law_1244 rfl ?_
          refine j_sub [1, 2, 3, 0] rfl ?_
          exact jbL_law_18 G hsc hq F fuel _ _ _ _ _ _ _ _ _ h
        · have h := iz_f c h
          refine j_iconst (pc := 587) F 0 dL_law_587 (by decide) ?_
          exact absurd (Prod.mk.inj (Prod.mk.inj (Option.some.inj h)).2).1 (by decide)
      have h := iz_f c13 h
      by_cases c14 : (x1 &&& 63) = 13
      · have h := iz_t c14 h
        refine j_tabIn (pc := 33) (k0 := 13) F 589 c14 dL_law_33 (by decide) rfl rfl ?_
        refine j_aload_n (pc := 589) (k0 := 1) F 1 rfl dL_law_589 ?_
        refine j_aload_n (pc := 590) (k0 := 0) F 0 rfl dL_law_590 ?_
        refine j_iload_n (pc := 591) (k0 := 3) F 3 rfl dL_law_591 ?_
        refine j_iconst (pc := 592) F 1 dL_law_592 (by decide) ?_
        refine j_iadd (pc := 593) F dL_law_593 ?_
        obtain ⟨x129, hx129, h⟩ := ob h
        refine j_sld (pc := 594) F hsc hx129 dL_law_594 ?_
        refine j_aload_n (pc := 595) (k0 := 0) F 0 rfl dL_law_595 ?_
        refine j_iload_n (pc := 596) (k0 := 3) F 3 rfl dL_law_596 ?_
        refine j_iconst (pc := 597) F 2 dL_law_597 (by decide) ?_
        refine j_iadd (pc := 598) F dL_law_598 ?_
        obtain ⟨x130, hx130, h⟩ := ob h
        refine j_sld (pc := 599) F hsc hx130 dL_law_599 ?_
        obtain ⟨u131, hu131, h⟩ := ob h
        have hou131 := ck_obt hu131
        obtain ⟨x132, i133, hx132, h⟩ := b2_obt h
        refine j_callV1 (pc := 600) (ci := 6) (As := [.int x129, .int x130]) (st := []) (e1 := e) (es1 := es) F clL_70 cwX6_best rfl hou131 (ctX6_best G hx132) rfl rfl rfl rfl (Nat.zero_add _).symm (Nat.zero_add _).symm dL_law_600 ?_
        refine j_aload_n (pc := 603) (k0 := 2) F 2 rfl dL_law_603 ?_
        refine j_aload_n (pc := 604) (k0 := 0) F 0 rfl dL_law_604 ?_
        refine j_iload_n (pc := 605) (k0 := 3) F 3 rfl dL_law_605 ?_
        refine j_iconst (pc := 606) F 1 dL_law_606 (by decide) ?_
        refine j_iadd (pc := 607) F dL_law_607 ?_
        obtain ⟨x134, hx134, h⟩ := ob h
        refine j_sld (pc := 608) F hsc hx134 dL_law_608 ?_
        refine j_aload_n (pc := 609) (k0 := 0) F 0 rfl dL_law_609 ?_
        refine j_iload_n (pc := 610) (k0 := 3) F 3 rfl dL_law_610 ?_
        refine j_iconst (pc := 611) F 2 dL_law_611 (by decide) ?_
        refine j_iadd (pc := 612) F dL_law_612 ?_
        obtain ⟨x135, hx135, h⟩ := ob h
        refine j_sld (pc := 613) F hsc hx135 dL_law_613 ?_
        obtain ⟨u136, hu136, h⟩ := ob h
        have hou136 := ck_obt hu136
        obtain ⟨x137, i138, hx137, h⟩ := b2_obt h
        refine j_callV1 (pc := 614) (ci := 7) (As := [.int x134, .int x135]) (st := [.int x132]) (e1 := e) (es1 := es) F clL_73 cwX7_best rfl hou136 (ctX7_best G hou136 hx137) rfl rfl rfl rfl (Nat.zero_add _).symm (Nat.zero_add _).symm dL_law_614 ?_
        refine j_icmp_eq (pc := 617) F 1241 dL_law_617 rfl (fun c => ?_) (fun c => ?_)
        · have h := iz_t c h
          refine j_iinc (pc := 1241) (k1 := 3) (ls' := [(3, .int (v3 + 6)), (0, .ref bs), (1, .ref v1), (2, .ref v2)]) F (v3 + 6) 3 rfl rfl rfl rfl dL_law_1241 ?_
          refine j_goto (pc := 1244) F 18 dL_law_1244 rfl ?_
          refine j_sub [1, 2, 3, 0] rfl ?_
          exact jbL_law_18 G hsc hq F fuel _ _ _ _ _ _ _ _ _ h
        · have h := iz_f c h
          refine j_iconst (pc := 620) F 0 dL_law_620 (by decide) ?_
          exact absurd (Prod.mk.inj (Prod.mk.inj (Option.some.inj h)).2).1 (by decide)
      have h := iz_f c14 h
      by_cases c15 : (x1 &&& 63) = 14
      · have h := iz_t c15 h
        refine j_tabIn (pc := 33) (k0 := 14) F 622 c15 dL_law_33 (by decide) rfl rfl ?_
        refine j_aload_n (pc := 622) (k0 := 1) F 1 rfl dL_law_622 ?_
        refine j_aload_n (pc := 623) (k0 := 0) F 0 rfl dL_law_623 ?_
        refine j_iload_n (pc := 624) (k0 := 3) F 3 rfl dL_law_624 ?_
        refine j_iconst (pc := 625) F 1 dL_law_625 (by decide) ?_
        refine j_iadd (pc := 626) F dL_law_626 ?_
        obtain ⟨x139, hx139, h⟩ := ob h
        refine j_sld (pc := 627) F hsc hx139 dL_law_627 ?_
        obtain ⟨u140, hu140, h⟩ := ob h
        have hou140 := ck_obt hu140
        obtain ⟨x141, i142, hx141, h⟩ := b2_obt h
        refine j_callV1 (pc := 628) (ci := 6) (As := [.int x139]) (st := []) (e1 := e) (es1 := es) F clL_74 cwX6_price rfl hou140 (ctX6_price G hx141) rfl rfl rfl rfl (Nat.zero_add _).symm (Nat.zero_add _).symm dL_law_628 ?_
        refine j_aload_n (pc := 631) (k0 := 2) F 2 rfl dL_law_631 ?_
        refine j_aload_n (pc := 632) (k0 := 0) F 0 rfl dL_law_632 ?_
        refine j_iload_n (pc := 633) (k0 := 3) F 3 rfl dL_law_633 ?_
        refine j_iconst (pc := 634) F 1 dL_law_634 (by decide) ?_
        refine j_iadd (pc := 635) F dL_law_635 ?_
        obtain ⟨x143, hx143, h⟩ := ob h
        refine j_sld (pc := 636) F hsc hx143 dL_law_636 ?_
        obtain ⟨u144, hu144, h⟩ := ob h
        have hou144 := ck_obt hu144
        obtain ⟨x145, i146, hx145, h⟩ := b2_obt h
        refine j_callV1 (pc := 637) (ci := 7) (As := [.int x143]) (st := [.int x141]) (e1 := e) (es1 := es) F clL_77 cwX7_price rfl hou144 (ctX7_price G hou144 hx145) rfl rfl rfl rfl (Nat.zero_add _).symm (Nat.zero_add _).symm dL_law_637 ?_
        refine j_icmp_eq (pc := 640) F 1241 dL_law_640 rfl (fun c => ?_) (fun c => ?_)
        · have h := iz_t c h
          refine j_iinc (pc := 1241) (k1 := 3) (ls' := [(3, .int (v3 + 6)), (0, .ref bs), (1, .ref v1), (2, .ref v2)]) F (v3 + 6) 3 rfl rfl rfl rfl dL_law_1241 ?_
          refine j_goto (pc := 1244) F 18 dL_law_1244 rfl ?_
          refine j_sub [1, 2, 3, 0] rfl ?_
          exact jbL_law_18 G hsc hq F fuel _ _ _ _ _ _ _ _ _ h
        · have h := iz_f c h
          refine j_iconst (pc := 643) F 0 dL_law_643 (by decide) ?_
          exact absurd (Prod.mk.inj (Prod.mk.inj (Option.some.inj h)).2).1 (by decide)
      have h := iz_f c15 h
      by_cases c16 : (x1 &&& 63) = 15
      · have h := iz_t c16 h
        refine j_tabIn (pc := 33) (k0 := 15) F 645 c16 dL_law_33 (by decide) rfl rfl ?_
        refine j_aload_n (pc := 645) (k0 := 1) F 1 rfl dL_law_645 ?_
        refine j_aload_n (pc := 646) (k0 := 0) F 0 rfl dL_law_646 ?_
        refine j_iload_n (pc := 647) (k0 := 3) F 3 rfl dL_law_647 ?_
        refine j_iconst (pc := 648) F 1 dL_law_648 (by decide) ?_
        refine j_iadd (pc := 649) F dL_law_649 ?_
        obtain ⟨x147, hx147, h⟩ := ob h
        refine j_sld (pc := 650) F hsc hx147 dL_law_650 ?_
        refine j_aload_n (pc := 651) (k0 := 0) F 0 rfl dL_law_651 ?_
        refine j_iload_n (pc := 652) (k0 := 3) F 3 rfl dL_law_652 ?_
        refine j_iconst (pc := 653) F 2 dL_law_653 (by decide) ?_
        refine j_iadd (pc := 654) F dL_law_654 ?_
        obtain ⟨x148, hx148, h⟩ := ob h
        refine j_sld (pc := 655) F hsc hx148 dL_law_655 ?_
        refine j_aload_n (pc := 656) (k0 := 0) F 0 rfl dL_law_656 ?_
        refine j_iload_n (pc := 657) (k0 := 3) F 3 rfl dL_law_657 ?_
        refine j_iconst (pc := 658) F 3 dL_law_658 (by decide) ?_
        refine j_iadd (pc := 659) F dL_law_659 ?_
        obtain ⟨x149, hx149, h⟩ := ob h
        refine j_sld (pc := 660) F hsc hx149 dL_law_660 ?_
        refine j_aload_n (pc := 661) (k0 := 0) F 0 rfl dL_law_661 ?_
        refine j_iload_n (pc := 662) (k0 := 3) F 3 rfl dL_law_662 ?_
        refine j_iconst (pc := 663) F 4 dL_law_663 (by decide) ?_
        refine j_iadd (pc := 664) F dL_law_664 ?_
        obtain ⟨x150, hx150, h⟩ := ob h
        refine j_sld (pc := 665) F hsc hx150 dL_law_665 ?_
        obtain ⟨u151, hu151, h⟩ := ob h
        have hou151 := ck_obt hu151
        obtain ⟨x152, i153, hx152, h⟩ := b2_obt h
        refine j_callV1 (pc := 666) (ci := 6) (As := [.int x147, .int x148, .int x149, .int x150]) (st := []) (e1 := e) (es1 := es) F clL_78 cwX6_part rfl hou151 (ctX6_part G hx152) rfl rfl rfl rfl (Nat.zero_add _).symm (Nat.zero_add _).symm dL_law_666 ?_
        refine j_aload_n (pc := 669) (k0 := 2) F 2 rfl dL_law_669 ?_
        refine j_aload_n (pc := 670) (k0 := 0) F 0 rfl dL_law_670 ?_
        refine j_iload_n (pc := 671) (k0 := 3) F 3 rfl dL_law_671 ?_
        refine j_iconst (pc := 672) F 1 dL_law_672 (by decide) ?_
        refine j_iadd (pc := 673) F dL_law_673 ?_
        obtain ⟨x154, hx154, h⟩ := ob h
        refine j_sld (pc := 674) F hsc hx154 dL_law_674 ?_
        refine j_aload_n (pc := 675) (k0 := 0) F 0 rfl dL_law_675 ?_
        refine j_iload_n (pc := 676) (k0 := 3) F 3 rfl dL_law_676 ?_
        refine j_iconst (pc := 677) F 2 dL_law_677 (by decide) ?_
        refine j_iadd (pc := 678) F dL_law_678 ?_
        obtain ⟨x155, hx155, h⟩ := ob h
        refine j_sld (pc := 679) F hsc hx155 dL_law_679 ?_
        refine j_aload_n (pc := 680) (k0 := 0) F 0 rfl dL_law_680 ?_
        refine j_iload_n (pc := 681) (k0 := 3) F 3 rfl dL_law_681 ?_
        refine j_iconst (pc := 682) F 3 dL_law_682 (by decide) ?_
        refine j_iadd (pc := 683) F dL_law_683 ?_
        obtain ⟨x156, hx156, h⟩ := ob h
        refine j_sld (pc := 684) F hsc hx156 dL_law_684 ?_
        refine j_aload_n (pc := 685) (k0 := 0) F 0 rfl dL_law_685 ?_
        refine j_iload_n (pc := 686) (k0 := 3) F 3 rfl dL_law_686 ?_
        refine j_iconst (pc := 687) F 4 dL_law_687 (by decide) ?_
        refine j_iadd (pc := 688) F dL_law_688 ?_
        obtain ⟨x157, hx157, h⟩ := ob h
        refine j_sld (pc := 689) F hsc hx157 dL_law_689 ?_
        obtain ⟨u158, hu158, h⟩ := ob h
        have hou158 := ck_obt hu158
        obtain ⟨x159, i160, hx159, h⟩ := b2_obt h
        refine j_callV1 (pc := 690) (ci := 7) (As := [.int x154, .int x155, .int x156, .int x157]) (st := [.int x152]) (e1 := e) (es1 := es) F clL_81 cwX7_part rfl hou158 (ctX7_part G hou158 hx159) rfl rfl rfl rfl (Nat.zero_add _).symm (Nat.zero_add _).symm dL_law_690 ?_
        refine j_icmp_eq (pc := 693) F 1241 dL_law_693 rfl (fun c => ?_) (fun c => ?_)
        · have h := iz_t c h
          refine j_iinc (pc := 1241) (k1 := 3) (ls' := [(3, .int (v3 + 6)), (0, .ref bs), (1, .ref v1), (2, .ref v2)]) F (v3 + 6) 3 rfl rfl rfl rfl dL_law_1241 ?_
          refine j_goto (pc := 1244) F 18 dL_law_1244 rfl ?_
          refine j_sub [1, 2, 3, 0] rfl ?_
          exact jbL_law_18 G hsc hq F fuel _ _ _ _ _ _ _ _ _ h
        · have h := iz_f c h
          refine j_iconst (pc := 696) F 0 dL_law_696 (by decide) ?_
          exact absurd (Prod.mk.inj (Prod.mk.inj (Option.some.inj h)).2).1 (by decide)
      have h := iz_f c16 h
      by_cases c17 : (x1 &&& 63) = 16
      · have h := iz_t c17 h
        refine j_tabIn (pc := 33) (k0 := 16) F 698 c17 dL_law_33 (by decide) rfl rfl ?_
        refine j_aload_n (pc := 698) (k0 := 1) F 1 rfl dL_law_698 ?_
        refine j_aload_n (pc := 699) (k0 := 0) F 0 rfl dL_law_699 ?_
        refine j_iload_n (pc := 700) (k0 := 3) F 3 rfl dL_law_700 ?_
        refine j_iconst (pc := 701) F 1 dL_law_701 (by decide) ?_
        refine j_iadd (pc := 702) F dL_law_702 ?_
        obtain ⟨x161, hx161, h⟩ := ob h
        refine j_sld (pc := 703) F hsc hx161 dL_law_703 ?_
        refine j_aload_n (pc := 704) (k0 := 0) F 0 rfl dL_law_704 ?_
        refine j_iload_n (pc := 705) (k0 := 3) F 3 rfl dL_law_705 ?_
        refine j_iconst (pc := 706) F 2 dL_law_706 (by decide) ?_
        refine j_iadd (pc := 707) F dL_law_707 ?_
        obtain ⟨x162, hx162, h⟩ := ob h
        refine j_sld (pc := 708) F hsc hx162 dL_law_708 ?_
        obtain ⟨u163, hu163, h⟩ := ob h
        have hou163 := ck_obt hu163
        obtain ⟨x164, i165, hx164, h⟩ := b2_obt h
        refine j_callV1 (pc := 709) (ci := 6) (As := [.int x161, .int x162]) (st := []) (e1 := e) (es1 := es) F clL_82 cwX6_odds rfl hou163 (ctX6_odds G hx164) rfl rfl rfl rfl (Nat.zero_add _).symm (Nat.zero_add _).symm dL_law_709 ?_
        refine j_aload_n (pc := 712) (k0 := 2) F 2 rfl dL_law_712 ?_
        refine j_aload_n (pc := 713) (k0 := 0) F 0 rfl dL_law_713 ?_
        refine j_iload_n (pc := 714) (k0 := 3) F 3 rfl dL_law_714 ?_
        refine j_iconst (pc := 715) F 1 dL_law_715 (by decide) ?_
        refine j_iadd (pc := 716) F dL_law_716 ?_
        obtain ⟨x166, hx166, h⟩ := ob h
        refine j_sld (pc := 717) F hsc hx166 dL_law_717 ?_
        refine j_aload_n (pc := 718) (k0 := 0) F 0 rfl dL_law_718 ?_
        refine j_iload_n (pc := 719) (k0 := 3) F 3 rfl dL_law_719 ?_
        refine j_iconst (pc := 720) F 2 dL_law_720 (by decide) ?_
        refine j_iadd (pc := 721) F dL_law_721 ?_
        obtain ⟨x167, hx167, h⟩ := ob h
        refine j_sld (pc := 722) F hsc hx167 dL_law_722 ?_
        obtain ⟨u168, hu168, h⟩ := ob h
        have hou168 := ck_obt hu168
        obtain ⟨x169, i170, hx169, h⟩ := b2_obt h
        refine j_callV1 (pc := 723) (ci := 7) (As := [.int x166, .int x167]) (st := [.int x164]) (e1 := e) (es1 := es) F clL_85 cwX7_odds rfl hou168 (ctX7_odds G hx169) rfl rfl rfl rfl (Nat.zero_add _).symm (Nat.zero_add _).symm dL_law_723 ?_
        refine j_icmp_eq (pc := 726) F 1241 dL_law_726 rfl (fun c => ?_) (fun c => ?_)
        · have h := iz_t c h
          refine j_iinc (pc := 1241) (k1 := 3) (ls' := [(3, .int (v3 + 6)), (0, .ref bs), (1, .ref v1), (2, .ref v2)]) F (v3 + 6) 3 rfl rfl rfl rfl dL_law_1241 ?_
          refine j_goto (pc := 1244) F 18 dL_law_1244 rfl ?_
          refine j_sub [1, 2, 3, 0] rfl ?_
          exact jbL_law_18 G hsc hq F fuel _ _ _ _ _ _ _ _ _ h
        · have h := iz_f c h
          refine j_iconst (pc := 729) F 0 dL_law_729 (by decide) ?_
          exact absurd (Prod.mk.inj (Prod.mk.inj (Option.some.inj h)).2).1 (by decide)
      have h := iz_f c17 h
      by_cases c18 : (x1 &&& 63) = 17
      · have h := iz_t c18 h
        refine j_tabIn (pc := 33) (k0 := 17) F 731 c18 dL_law_33 (by decide) rfl rfl ?_
        refine j_aload_n (pc := 731) (k0 := 1) F 1 rfl dL_law_731 ?_
        refine j_aload_n (pc := 732) (k0 := 0) F 0 rfl dL_law_732 ?_
        refine j_iload_n (pc := 733) (k0 := 3) F 3 rfl dL_law_733 ?_
        refine j_iconst (pc := 734) F 1 dL_law_734 (by decide) ?_
        refine j_iadd (pc := 735) F dL_law_735 ?_
        obtain ⟨x171, hx171, h⟩ := ob h
        refine j_sld (pc := 736) F hsc hx171 dL_law_736 ?_
        refine j_aload_n (pc := 737) (k0 := 0) F 0 rfl dL_law_737 ?_
        refine j_iload_n (pc := 738) (k0 := 3) F 3 rfl dL_law_738 ?_
        refine j_iconst (pc := 739) F 2 dL_law_739 (by decide) ?_
        refine j_iadd (pc := 740) F dL_law_740 ?_
        obtain ⟨x172, hx172, h⟩ := ob h
        refine j_sld (pc := 741) F hsc hx172 dL_law_741 ?_
        obtain ⟨u173, hu173, h⟩ := ob h
        have hou173 := ck_obt hu173
        obtain ⟨x174, i175, hx174, h⟩ := b2_obt h
        refine j_callV1 (pc := 742) (ci := 6) (As := [.int x171, .int x172]) (st := []) (e1 := e) (es1 := es) F clL_86 cwX6_mean rfl hou173 (ctX6_mean G hou173 hx174) rfl rfl rfl rfl (Nat.zero_add _).symm (Nat.zero_add _).symm dL_law_742 ?_
        refine j_aload_n (pc := 745) (k0 := 2) F 2 rfl dL_law_745 ?_
        refine j_aload_n (pc := 746) (k0 := 0) F 0 rfl dL_law_746 ?_
        refine j_iload_n (pc := 747) (k0 := 3) F 3 rfl dL_law_747 ?_
        refine j_iconst (pc := 748) F 1 dL_law_748 (by decide) ?_
        refine j_iadd (pc := 749) F dL_law_749 ?_
        obtain ⟨x176, hx176, h⟩ := ob h
        refine j_sld (pc := 750) F hsc hx176 dL_law_750 ?_
        refine j_aload_n (pc := 751) (k0 := 0) F 0 rfl dL_law_751 ?_
        refine j_iload_n (pc := 752) (k0 := 3) F 3 rfl dL_law_752 ?_
        refine j_iconst (pc := 753) F 2 dL_law_753 (by decide) ?_
        refine j_iadd (pc := 754) F dL_law_754 ?_
        obtain ⟨x177, hx177, h⟩ := ob h
        refine j_sld (pc := 755) F hsc hx177 dL_law_755 ?_
        obtain ⟨u178, hu178, h⟩ := ob h
        have hou178 := ck_obt hu178
        obtain ⟨x179, i180, hx179, h⟩ := b2_obt h
        refine j_callV1 (pc := 756) (ci := 7) (As := [.int x176, .int x177]) (st := [.long x174]) (e1 := e) (es1 := es) F clL_90 cwX7_mean rfl hou178 (ctX7_mean G hou178 hx179) rfl rfl rfl rfl (Nat.zero_add _).symm (Nat.zero_add _).symm dL_law_756 ?_
        refine j_lcmp (pc := 759) F dL_law_759 ?_
        refine j_if_eq (pc := 760) F 1241 dL_law_760 rfl (fun c => ?_) (fun c => ?_)
        · have h := iz_t c h
          refine j_iinc (pc := 1241) (k1 := 3) (ls' := [(3, .int (v3 + 6)), (0, .ref bs), (1, .ref v1), (2, .ref v2)]) F (v3 + 6) 3 rfl rfl rfl rfl dL_law_1241 ?_
          refine j_goto (pc := 1244) F 18 dL_law_1244 rfl ?_
          refine j_sub [1, 2, 3, 0] rfl ?_
          exact jbL_law_18 G hsc hq F fuel _ _ _ _ _ _ _ _ _ h
        · have h := iz_f c h
          refine j_iconst (pc := 763) F 0 dL_law_763 (by decide) ?_
          exact absurd (Prod.mk.inj (Prod.mk.inj (Option.some.inj h)).2).1 (by decide)
      have h := iz_f c18 h
      by_cases c19 : (x1 &&& 63) = 18
      · have h := iz_t c19 h
        refine j_tabIn (pc := 33) (k0 := 18) F 765 c19 dL_law_33 (by decide) rfl rfl ?_
        refine j_aload_n (pc := 765) (k0 := 1) F 1 rfl dL_law_765 ?_
        refine j_aload_n (pc := 766) (k0 := 0) F 0 rfl dL_law_766 ?_
        refine j_iload_n (pc := 767) (k0 := 3) F 3 rfl dL_law_767 ?_
        refine j_iconst (pc := 768) F 1 dL_law_768 (by decide) ?_
        refine j_iadd (pc := 769) F dL_law_769 ?_
        obtain ⟨x181, hx181, h⟩ := ob h
        refine j_sld (pc := 770) F hsc hx181 dL_law_770 ?_
        obtain ⟨u182, hu182, h⟩ := ob h
        have hou182 := ck_obt hu182
        obtain ⟨x183, i184, hx183, h⟩ := b2_obt h
        refine j_callV1 (pc := 771) (ci := 6) (As := [.int x181]) (st := []) (e1 := e) (es1 := es) F clL_91 cwX6_pond rfl hou182 (ctX6_pond G hx183) rfl rfl rfl rfl (Nat.zero_add _).symm (Nat.zero_add _).symm dL_law_771 ?_
        refine j_aload_n (pc := 774) (k0 := 2) F 2 rfl dL_law_774 ?_
        refine j_aload_n (pc := 775) (k0 := 0) F 0 rfl dL_law_775 ?_
        refine j_iload_n (pc := 776) (k0 := 3) F 3 rfl dL_law_776 ?_
        refine j_iconst (pc := 777) F 1 dL_law_777 (by decide) ?_
        refine j_iadd (pc := 778) F dL_law_778 ?_
        obtain ⟨x185, hx185, h⟩ := ob h
        refine j_sld (pc := 779) F hsc hx185 dL_law_779 ?_
        obtain ⟨u186, hu186, h⟩ := ob h
        have hou186 := ck_obt hu186
        obtain ⟨x187, i188, hx187, h⟩ := b2_obt h
        refine j_callV1 (pc := 780) (ci := 7) (As := [.int x185]) (st := [.int x183]) (e1 := e) (es1 := es) F clL_94 cwX7_pond rfl hou186 (ctX7_pond G hou186 hx187) rfl rfl rfl rfl (Nat.zero_add _).symm (Nat.zero_add _).symm dL_law_780 ?_
        refine j_icmp_eq (pc := 783) F 1241 dL_law_783 rfl (fun c => ?_) (fun c => ?_)
        · have h := iz_t c h
          refine j_iinc (pc := 1241) (k1 := 3) (ls' := [(3, .int (v3 + 6)), (0, .ref bs), (1, .ref v1), (2, .ref v2)]) F (v3 + 6) 3 rfl rfl rfl rfl dL_law_1241 ?_
          refine j_goto (pc := 1244) F 18 dL_law_1244 rfl ?_
          refine j_sub [1, 2, 3, 0] rfl ?_
          exact jbL_law_18 G hsc hq F fuel _ _ _ _ _ _ _ _ _ h
        · have h := iz_f c h
          refine j_iconst (pc := 786) F 0 dL_law_786 (by decide) ?_
          exact absurd (Prod.mk.inj (Prod.mk.inj (Option.some.inj h)).2).1 (by decide)
      have h := iz_f c19 h
      by_cases c20 : (x1 &&& 63) = 19
      · have h := iz_t c20 h
        refine j_tabIn (pc := 33) (k0 := 19) F 788 c20 dL_law_33 (by decide) rfl rfl ?_
        refine j_aload_n (pc := 788) (k0 := 1) F 1 rfl dL_law_788 ?_
        obtain ⟨u189, hu189, h⟩ := ob h
        have hou189 := ck_obt hu189
        obtain ⟨x190, i191, hx190, h⟩ := b2_obt h
        refine j_callV1 (pc := 789) (ci := 6) (As := []) (st := []) (e1 := e) (es1 := es) F clL_95 cwX6_wrong rfl hou189 (ctX6_wrong G hx190) rfl rfl rfl rfl (Nat.zero_add _).symm (Nat.zero_add _).symm dL_law_789 ?_
        refine j_aload_n (pc := 792) (k0 := 2) F 2 rfl dL_law_792 ?_
        obtain ⟨u192, hu192, h⟩ := ob h
        have hou192 := ck_obt hu192
        obtain ⟨x193, i194, hx193, h⟩ := b2_obt h
        refine j_callV1 (pc := 793) (ci := 7) (As := []) (st := [.int x190]) (e1 := e) (es1 := es) F clL_98 cwX7_wrong rfl hou192 (ctX7_wrong G hou192 hx193) rfl rfl rfl rfl (Nat.zero_add _).symm (Nat.zero_add _).symm dL_law_793 ?_
        refine j_icmp_eq (pc := 796) F 1241 dL_law_796 rfl (fun c => ?_) (fun c => ?_)
        · have h := iz_t c h
          refine j_iinc (pc := 1241) (k1 := 3) (ls' := [(3, .int (v3 + 6)), (0, .ref bs), (1, .ref v1), (2, .ref v2)]) F (v3 + 6) 3 rfl rfl rfl rfl dL_law_1241 ?_
          refine j_goto (pc := 1244) F 18 dL_law_1244 rfl ?_
          refine j_sub [1, 2, 3, 0] rfl ?_
          exact jbL_law_18 G hsc hq F fuel _ _ _ _ _ _ _ _ _ h
        · have h := iz_f c h
          refine j_iconst (pc := 799) F 0 dL_law_799 (by decide) ?_
          exact absurd (Prod.mk.inj (Prod.mk.inj (Option.some.inj h)).2).1 (by decide)
      have h := iz_f c20 h
      by_cases c21 : (x1 &&& 63) = 20
      · have h := iz_t c21 h
        refine j_tabIn (pc := 33) (k0 := 20) F 801 c21 dL_law_33 (by decide) rfl rfl ?_
        refine j_aload_n (pc := 801) (k0 := 1) F 1 rfl dL_law_801 ?_
        obtain ⟨u195, hu195, h⟩ := ob h
        have hou195 := ck_obt hu195
        obtain ⟨x196, i197, hx196, h⟩ := b2_obt h
        refine j_callV1 (pc := 802) (ci := 6) (As := []) (st := []) (e1 := e) (es1 := es) F clL_99 cwX6_spare rfl hou195 (ctX6_spare G hx196) rfl rfl rfl rfl (Nat.zero_add _).symm (Nat.zero_add _).symm dL_law_802 ?_
        refine j_aload_n (pc := 805) (k0 := 2) F 2 rfl dL_law_805 ?_
        obtain ⟨u198, hu198, h⟩ := ob h
        have hou198 := ck_obt hu198
        obtain ⟨x199, i200, hx199, h⟩ := b2_obt h
        refine j_callV1 (pc := 806) (ci := 7) (As := []) (st := [.int x196]) (e1 := e) (es1 := es) F clL_102 cwX7_spare rfl hou198 (ctX7_spare G hou198 hx199) rfl rfl rfl rfl (Nat.zero_add _).symm (Nat.zero_add _).symm dL_law_806 ?_
        refine j_icmp_eq (pc := 809) F 1241 dL_law_809 rfl (fun c => ?_) (fun c => ?_)
        · have h := iz_t c h
          refine j_iinc (pc := 1241) (k1 := 3) (ls' := [(3, .int (v3 + 6)), (0, .ref bs), (1, .ref v1), (2, .ref v2)]) F (v3 + 6) 3 rfl rfl rfl rfl dL_law_1241 ?_
          refine j_goto (pc := 1244) F 18 dL_law_1244 rfl ?_
          refine j_sub [1, 2, 3, 0] rfl ?_
          exact jbL_law_18 G hsc hq F fuel _ _ _ _ _ _ _ _ _ h
        · have h := iz_f c h
          refine j_iconst (pc := 812) F 0 dL_law_812 (by decide) ?_
          exact absurd (Prod.mk.inj (Prod.mk.inj (Option.some.inj h)).2).1 (by decide)
      have h := iz_f c21 h
      by_cases c22 : (x1 &&& 63) = 21
      · have h := iz_t c22 h
        refine j_tabIn (pc := 33) (k0 := 21) F 814 c22 dL_law_33 (by decide) rfl rfl ?_
        refine j_aload_n (pc := 814) (k0 := 1) F 1 rfl dL_law_814 ?_
        refine j_aload_n (pc := 815) (k0 := 0) F 0 rfl dL_law_815 ?_
        refine j_iload_n (pc := 816) (k0 := 3) F 3 rfl dL_law_816 ?_
        refine j_iconst (pc := 817) F 1 dL_law_817 (by decide) ?_
        refine j_iadd (pc := 818) F dL_law_818 ?_
        obtain ⟨x201, hx201, h⟩ := ob h
        refine j_sld (pc := 819) F hsc hx201 dL_law_819 ?_
        obtain ⟨u202, hu202, h⟩ := ob h
        have hou202 := ck_obt hu202
        obtain ⟨x203, i204, hx203, h⟩ := b2_obt h
        refine j_callV1 (pc := 820) (ci := 6) (As := [.int x201]) (st := []) (e1 := e) (es1 := es) F clL_103 cwX6_day rfl hou202 (ctX6_day G hx203) rfl rfl rfl rfl (Nat.zero_add _).symm (Nat.zero_add _).symm dL_law_820 ?_
        refine j_aload_n (pc := 823) (k0 := 2) F 2 rfl dL_law_823 ?_
        refine j_aload_n (pc := 824) (k0 := 0) F 0 rfl dL_law_824 ?_
        refine j_iload_n (pc := 825) (k0 := 3) F 3 rfl dL_law_825 ?_
        refine j_iconst (pc := 826) F 1 dL_law_826 (by decide) ?_
        refine j_iadd (pc := 827) F dL_law_827 ?_
        obtain ⟨x205, hx205, h⟩ := ob h
        refine j_sld (pc := 828) F hsc hx205 dL_law_828 ?_
        obtain ⟨u206, hu206, h⟩ := ob h
        have hou206 := ck_obt hu206
        obtain ⟨x207, i208, hx207, h⟩ := b2_obt h
        refine j_callV1 (pc := 829) (ci := 7) (As := [.int x205]) (st := [.int x203]) (e1 := e) (es1 := es) F clL_106 cwX7_day rfl hou206 (ctX7_day G hou206 hx207) rfl rfl rfl rfl (Nat.zero_add _).symm (Nat.zero_add _).symm dL_law_829 ?_
        refine j_icmp_eq (pc := 832) F 1241 dL_law_832 rfl (fun c => ?_) (fun c => ?_)
        · have h := iz_t c h
          refine j_iinc (pc := 1241) (k1 := 3) (ls' := [(3, .int (v3 + 6)), (0, .ref bs), (1, .ref v1), (2, .ref v2)]) F (v3 + 6) 3 rfl rfl rfl rfl dL_law_1241 ?_
          refine j_goto (pc := 1244) F 18 dL_law_1244 rfl ?_
          refine j_sub [1, 2, 3, 0] rfl ?_
          exact jbL_law_18 G hsc hq F fuel _ _ _ _ _ _ _ _ _ h
        · have h := iz_f c h
          refine j_iconst (pc := 835) F 0 dL_law_835 (by decide) ?_
          exact absurd (Prod.mk.inj (Prod.mk.inj (Option.some.inj h)).2).1 (by decide)
      have h := iz_f c22 h
      by_cases c23 : (x1 &&& 63) = 22
      · have h := iz_t c23 h
        refine j_tabIn (pc := 33) (k0 := 22) F 837 c23 dL_law_33 (by decide) rfl rfl ?_
        refine j_aload_n (pc := 837) (k0 := 1) F 1 rfl dL_law_837 ?_
        refine j_aload_n (pc := 838) (k0 := 0) F 0 rfl dL_law_838 ?_
        refine j_iload_n (pc := 839) (k0 := 3) F 3 rfl dL_law_839 ?_
        refine j_iconst (pc := 840) F 1 dL_law_840 (by decide) ?_
        refine j_iadd (pc := 841) F dL_law_841 ?_
        obtain ⟨x209, hx209, h⟩ := ob h
        refine j_sld (pc := 842) F hsc hx209 dL_law_842 ?_
        refine j_aload_n (pc := 843) (k0 := 0) F 0 rfl dL_law_843 ?_
        refine j_iload_n (pc := 844) (k0 := 3) F 3 rfl dL_law_844 ?_
        refine j_iconst (pc := 845) F 2 dL_law_845 (by decide) ?_
        refine j_iadd (pc := 846) F dL_law_846 ?_
        obtain ⟨x210, hx210, h⟩ := ob h
        refine j_sld (pc := 847) F hsc hx210 dL_law_847 ?_
        refine j_aload_n (pc := 848) (k0 := 0) F 0 rfl dL_law_848 ?_
        refine j_iload_n (pc := 849) (k0 := 3) F 3 rfl dL_law_849 ?_
        refine j_iconst (pc := 850) F 3 dL_law_850 (by decide) ?_
        refine j_iadd (pc := 851) F dL_law_851 ?_
        obtain ⟨x211, hx211, h⟩ := ob h
        refine j_sld (pc := 852) F hsc hx211 dL_law_852 ?_
        obtain ⟨u212, hu212, h⟩ := ob h
        have hou212 := ck_obt hu212
        obtain ⟨x213, i214, hx213, h⟩ := b2_obt h
        refine j_callV1 (pc := 853) (ci := 6) (As := [.int x209, .int x210, .int x211]) (st := []) (e1 := e) (es1 := es) F clL_107 cwX6_judge rfl hou212 (ctX6_judge G hou212 hx213) rfl rfl rfl rfl (Nat.zero_add _).symm (Nat.zero_add _).symm dL_law_853 ?_
        refine j_aload_n (pc := 856) (k0 := 2) F 2 rfl dL_law_856 ?_
        refine j_aload_n (pc := 857) (k0 := 0) F 0 rfl dL_law_857 ?_
        refine j_iload_n (pc := 858) (k0 := 3) F 3 rfl dL_law_858 ?_
        refine j_iconst (pc := 859) F 1 dL_law_859 (by decide) ?_
        refine j_iadd (pc := 860) F dL_law_860 ?_
        obtain ⟨x215, hx215, h⟩ := ob h
        refine j_sld (pc := 861) F hsc hx215 dL_law_861 ?_
        refine j_aload_n (pc := 862) (k0 := 0) F 0 rfl dL_law_862 ?_
        refine j_iload_n (pc := 863) (k0 := 3) F 3 rfl dL_law_863 ?_
        refine j_iconst (pc := 864) F 2 dL_law_864 (by decide) ?_
        refine j_iadd (pc := 865) F dL_law_865 ?_
        obtain ⟨x216, hx216, h⟩ := ob h
        refine j_sld (pc := 866) F hsc hx216 dL_law_866 ?_
        refine j_aload_n (pc := 867) (k0 := 0) F 0 rfl dL_law_867 ?_
        refine j_iload_n (pc := 868) (k0 := 3) F 3 rfl dL_law_868 ?_
        refine j_iconst (pc := 869) F 3 dL_law_869 (by decide) ?_
        refine j_iadd (pc := 870) F dL_law_870 ?_
        obtain ⟨x217, hx217, h⟩ := ob h
        refine j_sld (pc := 871) F hsc hx217 dL_law_871 ?_
        obtain ⟨u218, hu218, h⟩ := ob h
        have hou218 := ck_obt hu218
        obtain ⟨x219, i220, hx219, h⟩ := b2_obt h
        refine j_callV1 (pc := 872) (ci := 7) (As := [.int x215, .int x216, .int x217]) (st := [.int x213]) (e1 := e) (es1 := es) F clL_110 cwX7_judge rfl hou218 (ctX7_judge G hou218 hx219) rfl rfl rfl rfl (Nat.zero_add _).symm (Nat.zero_add _).symm dL_law_872 ?_
        refine j_icmp_eq (pc := 875) F 1241 dL_law_875 rfl (fun c => ?_) (fun c => ?_)
        · have h := iz_t c h
          refine j_iinc (pc := 1241) (k1 := 3) (ls' := [(3, .int (v3 + 6)), (0, .ref bs), (1, .ref v1), (2, .ref v2)]) F (v3 + 6) 3 rfl rfl rfl rfl dL_law_1241 ?_
          refine j_goto (pc := 1244) F 18 dL_law_1244 rfl ?_
          refine j_sub [1, 2, 3, 0] rfl ?_
          exact jbL_law_18 G hsc hq F fuel _ _ _ _ _ _ _ _ _ h
        · have h := iz_f c h
          refine j_iconst (pc := 878) F 0 dL_law_878 (by decide) ?_
          exact absurd (Prod.mk.inj (Prod.mk.inj (Option.some.inj h)).2).1 (by decide)
      have h := iz_f c23 h
      by_cases c24 : (x1 &&& 63) = 23
      · have h := iz_t c24 h
        refine j_tabIn (pc := 33) (k0 := 23) F 880 c24 dL_law_33 (by decide) rfl rfl ?_
        refine j_aload_n (pc := 880) (k0 := 1) F 1 rfl dL_law_880 ?_
        obtain ⟨u221, hu221, h⟩ := ob h
        have hou221 := ck_obt hu221
        obtain ⟨x222, h223, i224, hx222, h⟩ := b3_obt h
        refine j_callV1 (pc := 881) (ci := 6) (As := []) (st := []) (e1 := e) (es1 := es) F clL_111 cwX6_image rfl hou221 (ctX6_image G hx222) rfl rfl rfl rfl (Nat.zero_add _).symm (Nat.zero_add _).symm dL_law_881 ?_
        refine j_aload_n (pc := 884) (k0 := 2) F 2 rfl dL_law_884 ?_
        obtain ⟨u225, hu225, h⟩ := ob h
        have hou225 := ck_obt hu225
        obtain ⟨x226, i227, hx226, h⟩ := b2_obt h
        refine j_callV1 (pc := 885) (ci := 7) (As := []) (st := [.int x222]) (e1 := e) (es1 := es) F clL_114 cwX7_image rfl hou225 (ctX7_image G hou225 hx226) rfl rfl rfl rfl (Nat.zero_add _).symm (Nat.zero_add _).symm dL_law_885 ?_
        refine j_icmp_eq (pc := 888) F 1241 dL_law_888 rfl (fun c => ?_) (fun c => ?_)
        · have h := iz_t c h
          refine j_iinc (pc := 1241) (k1 := 3) (ls' := [(3, .int (v3 + 6)), (0, .ref bs), (1, .ref v1), (2, .ref v2)]) F (v3 + 6) 3 rfl rfl rfl rfl dL_law_1241 ?_
          refine j_goto (pc := 1244) F 18 dL_law_1244 rfl ?_
          refine j_sub [1, 2, 3, 0] rfl ?_
          exact jbL_law_18 G hsc hq F fuel _ _ _ _ _ _ _ _ _ h
        · have h := iz_f c h
          refine j_iconst (pc := 891) F 0 dL_law_891 (by decide) ?_
          exact absurd (Prod.mk.inj (Prod.mk.inj (Option.some.inj h)).2).1 (by decide)
      have h := iz_f c24 h
      by_cases c25 : (x1 &&& 63) = 24
      · have h := iz_t c25 h
        refine j_tabIn (pc := 33) (k0 := 24) F 893 c25 dL_law_33 (by decide) rfl rfl ?_
        refine j_aload_n (pc := 893) (k0 := 1) F 1 rfl dL_law_893 ?_
        obtain ⟨u228, hu228, h⟩ := ob h
        have hou228 := ck_obt hu228
        obtain ⟨x229, h230, i231, hx229, h⟩ := b3_obt h
        refine j_callV1 (pc := 894) (ci := 6) (As := []) (st := []) (e1 := e) (es1 := es) F clL_115 cwX6_undo rfl hou228 (ctX6_undo G hx229) rfl rfl rfl rfl (Nat.zero_add _).symm (Nat.zero_add _).symm dL_law_894 ?_
        refine j_aload_n (pc := 897) (k0 := 2) F 2 rfl dL_law_897 ?_
        obtain ⟨u232, hu232, h⟩ := ob h
        have hou232 := ck_obt hu232
        obtain ⟨x233, i234, hx233, h⟩ := b2_obt h
        refine j_callV1 (pc := 898) (ci := 7) (As := []) (st := [.int x229]) (e1 := e) (es1 := es) F clL_118 cwX7_undo rfl hou232 (ctX7_undo G hou232 hx233) rfl rfl rfl rfl (Nat.zero_add _).symm (Nat.zero_add _).symm dL_law_898 ?_
        refine j_icmp_eq (pc := 901) F 1241 dL_law_901 rfl (fun c => ?_) (fun c => ?_)
        · have h := iz_t c h
          refine j_iinc (pc := 1241) (k1 := 3) (ls' := [(3, .int (v3 + 6)), (0, .ref bs), (1, .ref v1), (2, .ref v2)]) F (v3 + 6) 3 rfl rfl rfl rfl dL_law_1241 ?_
          refine j_goto (pc := 1244) F 18 dL_law_1244 rfl ?_
          refine j_sub [1, 2, 3, 0] rfl ?_
          exact jbL_law_18 G hsc hq F fuel _ _ _ _ _ _ _ _ _ h
        · have h := iz_f c h
          refine j_iconst (pc := 904) F 0 dL_law_904 (by decide) ?_
          exact absurd (Prod.mk.inj (Prod.mk.inj (Option.some.inj h)).2).1 (by decide)
      have h := iz_f c25 h
      by_cases c26 : (x1 &&& 63) = 25
      · have h := iz_t c26 h
        refine j_tabIn (pc := 33) (k0 := 25) F 906 c26 dL_law_33 (by decide) rfl rfl ?_
        refine j_aload_n (pc := 906) (k0 := 1) F 1 rfl dL_law_906 ?_
        refine j_aload_n (pc := 907) (k0 := 0) F 0 rfl dL_law_907 ?_
        refine j_iload_n (pc := 908) (k0 := 3) F 3 rfl dL_law_908 ?_
        refine j_iconst (pc := 909) F 1 dL_law_909 (by decide) ?_
        refine j_iadd (pc := 910) F dL_law_910 ?_
        obtain ⟨x235, hx235, h⟩ := ob h
        refine j_sld (pc := 911) F hsc hx235 dL_law_911 ?_
        refine j_aload_n (pc := 912) (k0 := 0) F 0 rfl dL_law_912 ?_
        refine j_iload_n (pc := 913) (k0 := 3) F 3 rfl dL_law_913 ?_
        refine j_iconst (pc := 914) F 2 dL_law_914 (by decide) ?_
        refine j_iadd (pc := 915) F dL_law_915 ?_
        obtain ⟨x236, hx236, h⟩ := ob h
        refine j_sld (pc := 916) F hsc hx236 dL_law_916 ?_
        refine j_aload_n (pc := 917) (k0 := 0) F 0 rfl dL_law_917 ?_
        refine j_iload_n (pc := 918) (k0 := 3) F 3 rfl dL_law_918 ?_
        refine j_iconst (pc := 919) F 3 dL_law_919 (by decide) ?_
        refine j_iadd (pc := 920) F dL_law_920 ?_
        obtain ⟨x237, hx237, h⟩ := ob h
        refine j_sld (pc := 921) F hsc hx237 dL_law_921 ?_
        obtain ⟨u238, hu238, h⟩ := ob h
        have hou238 := ck_obt hu238
        obtain ⟨x239, i240, hx239, h⟩ := b2_obt h
        refine j_callV1 (pc := 922) (ci := 6) (As := [.int x235, .int x236, .int x237]) (st := []) (e1 := e) (es1 := es) F clL_119 cwX6_act rfl hou238 (ctX6_act G hx239) rfl rfl rfl rfl (Nat.zero_add _).symm (Nat.zero_add _).symm dL_law_922 ?_
        refine j_aload_n (pc := 925) (k0 := 2) F 2 rfl dL_law_925 ?_
        refine j_aload_n (pc := 926) (k0 := 0) F 0 rfl dL_law_926 ?_
        refine j_iload_n (pc := 927) (k0 := 3) F 3 rfl dL_law_927 ?_
        refine j_iconst (pc := 928) F 1 dL_law_928 (by decide) ?_
        refine j_iadd (pc := 929) F dL_law_929 ?_
        obtain ⟨x241, hx241, h⟩ := ob h
        refine j_sld (pc := 930) F hsc hx241 dL_law_930 ?_
        refine j_aload_n (pc := 931) (k0 := 0) F 0 rfl dL_law_931 ?_
        refine j_iload_n (pc := 932) (k0 := 3) F 3 rfl dL_law_932 ?_
        refine j_iconst (pc := 933) F 2 dL_law_933 (by decide) ?_
        refine j_iadd (pc := 934) F dL_law_934 ?_
        obtain ⟨x242, hx242, h⟩ := ob h
        refine j_sld (pc := 935) F hsc hx242 dL_law_935 ?_
        refine j_aload_n (pc := 936) (k0 := 0) F 0 rfl dL_law_936 ?_
        refine j_iload_n (pc := 937) (k0 := 3) F 3 rfl dL_law_937 ?_
        refine j_iconst (pc := 938) F 3 dL_law_938 (by decide) ?_
        refine j_iadd (pc := 939) F dL_law_939 ?_
        obtain ⟨x243, hx243, h⟩ := ob h
        refine j_sld (pc := 940) F hsc hx243 dL_law_940 ?_
        obtain ⟨u244, hu244, h⟩ := ob h
        have hou244 := ck_obt hu244
        obtain ⟨x245, i246, hx245, h⟩ := b2_obt h
        refine j_callV1 (pc := 941) (ci := 7) (As := [.int x241, .int x242, .int x243]) (st := [.int x239]) (e1 := e) (es1 := es) F clL_122 cwX7_act rfl hou244 (ctX7_act G hou244 hx245) rfl rfl rfl rfl (Nat.zero_add _).symm (Nat.zero_add _).symm dL_law_941 ?_
        refine j_icmp_eq (pc := 944) F 1241 dL_law_944 rfl (fun c => ?_) (fun c => ?_)
        · have h := iz_t c h
          refine j_iinc (pc := 1241) (k1 := 3) (ls' := [(3, .int (v3 + 6)), (0, .ref bs), (1, .ref v1), (2, .ref v2)]) F (v3 + 6) 3 rfl rfl rfl rfl dL_law_1241 ?_
          refine j_goto (pc := 1244) F 18 dL_law_1244 rfl ?_
          refine j_sub [1, 2, 3, 0] rfl ?_
          exact jbL_law_18 G hsc hq F fuel _ _ _ _ _ _ _ _ _ h
        · have h := iz_f c h
          refine j_iconst (pc := 947) F 0 dL_law_947 (by decide) ?_
          exact absurd (Prod.mk.inj (Prod.mk.inj (Option.some.inj h)).2).1 (by decide)
      have h := iz_f c26 h
      by_cases c27 : (x1 &&& 63) = 26
      · have h := iz_t c27 h
        refine j_tabIn (pc := 33) (k0 := 26) F 949 c27 dL_law_33 (by decide) rfl rfl ?_
        refine j_aload_n (pc := 949) (k0 := 1) F 1 rfl dL_law_949 ?_
        refine j_aload_n (pc := 950) (k0 := 0) F 0 rfl dL_law_950 ?_
        refine j_iload_n (pc := 951) (k0 := 3) F 3 rfl dL_law_951 ?_
        refine j_iconst (pc := 952) F 1 dL_law_952 (by decide) ?_
        refine j_iadd (pc := 953) F dL_law_953 ?_
        obtain ⟨x247, hx247, h⟩ := ob h
        refine j_sld (pc := 954) F hsc hx247 dL_law_954 ?_
        obtain ⟨u248, hu248, h⟩ := ob h
        have hou248 := ck_obt hu248
        obtain ⟨x249, hx249, h⟩ := ob h
        refine j_callV1 (pc := 955) (ci := 6) (As := [.int x247]) (st := []) (e1 := e) (es1 := es) F clL_123 cwX6_trace rfl hou248 (ctX6_trace G hx249) rfl rfl rfl rfl (Nat.zero_add _).symm (Nat.zero_add _).symm dL_law_955 ?_
        refine j_aload_n (pc := 958) (k0 := 2) F 2 rfl dL_law_958 ?_
        refine j_aload_n (pc := 959) (k0 := 0) F 0 rfl dL_law_959 ?_
        refine j_iload_n (pc := 960) (k0 := 3) F 3 rfl dL_law_960 ?_
        refine j_iconst (pc := 961) F 1 dL_law_961 (by decide) ?_
        refine j_iadd (pc := 962) F dL_law_962 ?_
        obtain ⟨x250, hx250, h⟩ := ob h
        refine j_sld (pc := 963) F hsc hx250 dL_law_963 ?_
        obtain ⟨u251, hu251, h⟩ := ob h
        have hou251 := ck_obt hu251
        obtain ⟨x252, hx252, h⟩ := ob h
        refine j_callV1 (pc := 964) (ci := 7) (As := [.int x250]) (st := [.int x249]) (e1 := e) (es1 := es) F clL_126 cwX7_trace rfl hou251 (ctX7_trace G hou251 hx252) rfl rfl rfl rfl (Nat.zero_add _).symm (Nat.zero_add _).symm dL_law_964 ?_
        refine j_icmp_eq (pc := 967) F 1241 dL_law_967 rfl (fun c => ?_) (fun c => ?_)
        · have h := iz_t c h
          refine j_iinc (pc := 1241) (k1 := 3) (ls' := [(3, .int (v3 + 6)), (0, .ref bs), (1, .ref v1), (2, .ref v2)]) F (v3 + 6) 3 rfl rfl rfl rfl dL_law_1241 ?_
          refine j_goto (pc := 1244) F 18 dL_law_1244 rfl ?_
          refine j_sub [1, 2, 3, 0] rfl ?_
          exact jbL_law_18 G hsc hq F fuel _ _ _ _ _ _ _ _ _ h
        · have h := iz_f c h
          refine j_iconst (pc := 970) F 0 dL_law_970 (by decide) ?_
          exact absurd (Prod.mk.inj (Prod.mk.inj (Option.some.inj h)).2).1 (by decide)
      have h := iz_f c27 h
      by_cases c28 : (x1 &&& 63) = 27
      · have h := iz_t c28 h
        refine j_tabIn (pc := 33) (k0 := 27) F 972 c28 dL_law_33 (by decide) rfl rfl ?_
        refine j_aload_n (pc := 972) (k0 := 1) F 1 rfl dL_law_972 ?_
        refine j_aload_n (pc := 973) (k0 := 0) F 0 rfl dL_law_973 ?_
        refine j_iload_n (pc := 974) (k0 := 3) F 3 rfl dL_law_974 ?_
        refine j_iconst (pc := 975) F 1 dL_law_975 (by decide) ?_
        refine j_iadd (pc := 976) F dL_law_976 ?_
        obtain ⟨x253, hx253, h⟩ := ob h
        refine j_sld (pc := 977) F hsc hx253 dL_law_977 ?_
        refine j_aload_n (pc := 978) (k0 := 0) F 0 rfl dL_law_978 ?_
        refine j_iload_n (pc := 979) (k0 := 3) F 3 rfl dL_law_979 ?_
        refine j_iconst (pc := 980) F 2 dL_law_980 (by decide) ?_
        refine j_iadd (pc := 981) F dL_law_981 ?_
        obtain ⟨x254, hx254, h⟩ := ob h
        refine j_sld (pc := 982) F hsc hx254 dL_law_982 ?_
        obtain ⟨u255, hu255, h⟩ := ob h
        have hou255 := ck_obt hu255
        obtain ⟨x256, hx256, h⟩ := ob h
        refine j_callV1 (pc := 983) (ci := 6) (As := [.int x253, .int x254]) (st := []) (e1 := e) (es1 := es) F clL_127 cwX6_taken rfl hou255 (ctX6_taken G hx256) rfl rfl rfl rfl (Nat.zero_add _).symm (Nat.zero_add _).symm dL_law_983 ?_
        refine j_aload_n (pc := 986) (k0 := 2) F 2 rfl dL_law_986 ?_
        refine j_aload_n (pc := 987) (k0 := 0) F 0 rfl dL_law_987 ?_
        refine j_iload_n (pc := 988) (k0 := 3) F 3 rfl dL_law_988 ?_
        refine j_iconst (pc := 989) F 1 dL_law_989 (by decide) ?_
        refine j_iadd (pc := 990) F dL_law_990 ?_
        obtain ⟨x257, hx257, h⟩ := ob h
        refine j_sld (pc := 991) F hsc hx257 dL_law_991 ?_
        refine j_aload_n (pc := 992) (k0 := 0) F 0 rfl dL_law_992 ?_
        refine j_iload_n (pc := 993) (k0 := 3) F 3 rfl dL_law_993 ?_
        refine j_iconst (pc := 994) F 2 dL_law_994 (by decide) ?_
        refine j_iadd (pc := 995) F dL_law_995 ?_
        obtain ⟨x258, hx258, h⟩ := ob h
        refine j_sld (pc := 996) F hsc hx258 dL_law_996 ?_
        obtain ⟨u259, hu259, h⟩ := ob h
        have hou259 := ck_obt hu259
        obtain ⟨x260, hx260, h⟩ := ob h
        refine j_callV1 (pc := 997) (ci := 7) (As := [.int x257, .int x258]) (st := [.int x256]) (e1 := e) (es1 := es) F clL_130 cwX7_taken rfl hou259 (ctX7_taken G hou259 hx260) rfl rfl rfl rfl (Nat.zero_add _).symm (Nat.zero_add _).symm dL_law_997 ?_
        refine j_icmp_eq (pc := 1000) F 1241 dL_law_1000 rfl (fun c => ?_) (fun c => ?_)
        · have h := iz_t c h
          refine j_iinc (pc := 1241) (k1 := 3) (ls' := [(3, .int (v3 + 6)), (0, .ref bs), (1, .ref v1), (2, .ref v2)]) F (v3 + 6) 3 rfl rfl rfl rfl dL_law_1241 ?_
          refine j_goto (pc := 1244) F 18 dL_law_1244 rfl ?_
          refine j_sub [1, 2, 3, 0] rfl ?_
          exact jbL_law_18 G hsc hq F fuel _ _ _ _ _ _ _ _ _ h
        · have h := iz_f c h
          refine j_iconst (pc := 1003) F 0 dL_law_1003 (by decide) ?_
          exact absurd (Prod.mk.inj (Prod.mk.inj (Option.some.inj h)).2).1 (by decide)
      have h := iz_f c28 h
      by_cases c29 : (x1 &&& 63) = 28
      · have h := iz_t c29 h
        refine j_tabIn (pc := 33) (k0 := 28) F 1005 c29 dL_law_33 (by decide) rfl rfl ?_
        refine j_aload_n (pc := 1005) (k0 := 1) F 1 rfl dL_law_1005 ?_
        refine j_aload_n (pc := 1006) (k0 := 0) F 0 rfl dL_law_1006 ?_
        refine j_iload_n (pc := 1007) (k0 := 3) F 3 rfl dL_law_1007 ?_
        refine j_iconst (pc := 1008) F 1 dL_law_1008 (by decide) ?_
        refine j_iadd (pc := 1009) F dL_law_1009 ?_
        obtain ⟨x261, hx261, h⟩ := ob h
        refine j_sld (pc := 1010) F hsc hx261 dL_law_1010 ?_
        obtain ⟨u262, hu262, h⟩ := ob h
        have hou262 := ck_obt hu262
        obtain ⟨x263, hx263, h⟩ := ob h
        refine j_callV1 (pc := 1011) (ci := 6) (As := [.int x261]) (st := []) (e1 := e) (es1 := es) F clL_131 cwX6_count rfl hou262 (ctX6_count G hx263) rfl rfl rfl rfl (Nat.zero_add _).symm (Nat.zero_add _).symm dL_law_1011 ?_
        refine j_aload_n (pc := 1014) (k0 := 2) F 2 rfl dL_law_1014 ?_
        refine j_aload_n (pc := 1015) (k0 := 0) F 0 rfl dL_law_1015 ?_
        refine j_iload_n (pc := 1016) (k0 := 3) F 3 rfl dL_law_1016 ?_
        refine j_iconst (pc := 1017) F 1 dL_law_1017 (by decide) ?_
        refine j_iadd (pc := 1018) F dL_law_1018 ?_
        obtain ⟨x264, hx264, h⟩ := ob h
        refine j_sld (pc := 1019) F hsc hx264 dL_law_1019 ?_
        obtain ⟨u265, hu265, h⟩ := ob h
        have hou265 := ck_obt hu265
        obtain ⟨x266, hx266, h⟩ := ob h
        refine j_callV1 (pc := 1020) (ci := 7) (As := [.int x264]) (st := [.int x263]) (e1 := e) (es1 := es) F clL_134 cwX7_count rfl hou265 (ctX7_count G hx266) rfl rfl rfl rfl (Nat.zero_add _).symm (Nat.zero_add _).symm dL_law_1020 ?_
        refine j_icmp_eq (pc := 1023) F 1241 dL_law_1023 rfl (fun c => ?_) (fun c => ?_)
        · have h := iz_t c h
          refine j_iinc (pc := 1241) (k1 := 3) (ls' := [(3, .int (v3 + 6)), (0, .ref bs), (1, .ref v1), (2, .ref v2)]) F (v3 + 6) 3 rfl rfl rfl rfl dL_law_1241 ?_
          refine j_goto (pc := 1244) F 18 dL_law_1244 rfl ?_
          refine j_sub [1, 2, 3, 0] rfl ?_
          exact jbL_law_18 G hsc hq F fuel _ _ _ _ _ _ _ _ _ h
        · have h := iz_f c h
          refine j_iconst (pc := 1026) F 0 dL_law_1026 (by decide) ?_
          exact absurd (Prod.mk.inj (Prod.mk.inj (Option.some.inj h)).2).1 (by decide)
      have h := iz_f c29 h
      by_cases c30 : (x1 &&& 63) = 29
      · have h := iz_t c30 h
        refine j_tabIn (pc := 33) (k0 := 29) F 1028 c30 dL_law_33 (by decide) rfl rfl ?_
        refine j_aload_n (pc := 1028) (k0 := 1) F 1 rfl dL_law_1028 ?_
        refine j_aload_n (pc := 1029) (k0 := 0) F 0 rfl dL_law_1029 ?_
        refine j_iload_n (pc := 1030) (k0 := 3) F 3 rfl dL_law_1030 ?_
        refine j_iconst (pc := 1031) F 1 dL_law_1031 (by decide) ?_
        refine j_iadd (pc := 1032) F dL_law_1032 ?_
        obtain ⟨x267, hx267, h⟩ := ob h
        refine j_sld (pc := 1033) F hsc hx267 dL_law_1033 ?_
        refine j_aload_n (pc := 1034) (k0 := 0) F 0 rfl dL_law_1034 ?_
        refine j_iload_n (pc := 1035) (k0 := 3) F 3 rfl dL_law_1035 ?_
        refine j_iconst (pc := 1036) F 2 dL_law_1036 (by decide) ?_
        refine j_iadd (pc := 1037) F dL_law_1037 ?_
        obtain ⟨x268, hx268, h⟩ := ob h
        refine j_sld (pc := 1038) F hsc hx268 dL_law_1038 ?_
        refine j_aload_n (pc := 1039) (k0 := 0) F 0 rfl dL_law_1039 ?_
        refine j_iload_n (pc := 1040) (k0 := 3) F 3 rfl dL_law_1040 ?_
        refine j_iconst (pc := 1041) F 3 dL_law_1041 (by decide) ?_
        refine j_iadd (pc := 1042) F dL_law_1042 ?_
        obtain ⟨x269, hx269, h⟩ := ob h
        refine j_sld (pc := 1043) F hsc hx269 dL_law_1043 ?_
        obtain ⟨u270, hu270, h⟩ := ob h
        have hou270 := ck_obt hu270
        obtain ⟨x271, i272, l273, hx271, h⟩ := b3_obt h
        refine j_callV1 (pc := 1044) (ci := 6) (As := [.int x267, .int x268, .int x269]) (st := []) (e1 := e) (es1 := es) F clL_135 cwX6_tape rfl hou270 (ctX6_tape G hou270 hx271) rfl rfl rfl rfl (Nat.zero_add _).symm (Nat.zero_add _).symm dL_law_1044 ?_
        refine j_aload_n (pc := 1047) (k0 := 2) F 2 rfl dL_law_1047 ?_
        refine j_aload_n (pc := 1048) (k0 := 0) F 0 rfl dL_law_1048 ?_
        refine j_iload_n (pc := 1049) (k0 := 3) F 3 rfl dL_law_1049 ?_
        refine j_iconst (pc := 1050) F 1 dL_law_1050 (by decide) ?_
        refine j_iadd (pc := 1051) F dL_law_1051 ?_
        obtain ⟨x274, hx274, h⟩ := ob h
        refine j_sld (pc := 1052) F hsc hx274 dL_law_1052 ?_
        refine j_aload_n (pc := 1053) (k0 := 0) F 0 rfl dL_law_1053 ?_
        refine j_iload_n (pc := 1054) (k0 := 3) F 3 rfl dL_law_1054 ?_
        refine j_iconst (pc := 1055) F 2 dL_law_1055 (by decide) ?_
        refine j_iadd (pc := 1056) F dL_law_1056 ?_
        obtain ⟨x275, hx275, h⟩ := ob h
        refine j_sld (pc := 1057) F hsc hx275 dL_law_1057 ?_
        refine j_aload_n (pc := 1058) (k0 := 0) F 0 rfl dL_law_1058 ?_
        refine j_iload_n (pc := 1059) (k0 := 3) F 3 rfl dL_law_1059 ?_
        refine j_iconst (pc := 1060) F 3 dL_law_1060 (by decide) ?_
        refine j_iadd (pc := 1061) F dL_law_1061 ?_
        obtain ⟨x276, hx276, h⟩ := ob h
        refine j_sld (pc := 1062) F hsc hx276 dL_law_1062 ?_
        obtain ⟨u277, hu277, h⟩ := ob h
        have hou277 := ck_obt hu277
        obtain ⟨x278, i279, l280, hx278, h⟩ := b3_obt h
        refine j_callV1 (pc := 1063) (ci := 7) (As := [.int x274, .int x275, .int x276]) (st := [.int x271]) (e1 := e) (es1 := es) F clL_138 cwX7_tape rfl hou277 (ctX7_tape G hou277 hx278) rfl rfl rfl rfl (Nat.zero_add _).symm (Nat.zero_add _).symm dL_law_1063 ?_
        refine j_icmp_eq (pc := 1066) F 1241 dL_law_1066 rfl (fun c => ?_) (fun c => ?_)
        · have h := iz_t c h
          refine j_iinc (pc := 1241) (k1 := 3) (ls' := [(3, .int (v3 + 6)), (0, .ref bs), (1, .ref v1), (2, .ref v2)]) F (v3 + 6) 3 rfl rfl rfl rfl dL_law_1241 ?_
          refine j_goto (pc := 1244) F 18 dL_law_1244 rfl ?_
          refine j_sub [1, 2, 3, 0] rfl ?_
          exact jbL_law_18 G hsc hq F fuel _ _ _ _ _ _ _ _ _ h
        · have h := iz_f c h
          refine j_iconst (pc := 1069) F 0 dL_law_1069 (by decide) ?_
          exact absurd (Prod.mk.inj (Prod.mk.inj (Option.some.inj h)).2).1 (by decide)
      have h := iz_f c30 h
      by_cases c31 : (x1 &&& 63) = 30
      · have h := iz_t c31 h
        refine j_tabIn (pc := 33) (k0 := 30) F 1071 c31 dL_law_33 (by decide) rfl rfl ?_
        refine j_aload_n (pc := 1071) (k0 := 1) F 1 rfl dL_law_1071 ?_
        refine j_aload_n (pc := 1072) (k0 := 0) F 0 rfl dL_law_1072 ?_
        refine j_iload_n (pc := 1073) (k0 := 3) F 3 rfl dL_law_1073 ?_
        refine j_iconst (pc := 1074) F 1 dL_law_1074 (by decide) ?_
        refine j_iadd (pc := 1075) F dL_law_1075 ?_
        obtain ⟨x281, hx281, h⟩ := ob h
        refine j_sld (pc := 1076) F hsc hx281 dL_law_1076 ?_
        refine j_aload_n (pc := 1077) (k0 := 0) F 0 rfl dL_law_1077 ?_
        refine j_iload_n (pc := 1078) (k0 := 3) F 3 rfl dL_law_1078 ?_
        refine j_iconst (pc := 1079) F 2 dL_law_1079 (by decide) ?_
        refine j_iadd (pc := 1080) F dL_law_1080 ?_
        obtain ⟨x282, hx282, h⟩ := ob h
        refine j_sld (pc := 1081) F hsc hx282 dL_law_1081 ?_
        refine j_aload_n (pc := 1082) (k0 := 0) F 0 rfl dL_law_1082 ?_
        refine j_iload_n (pc := 1083) (k0 := 3) F 3 rfl dL_law_1083 ?_
        refine j_iconst (pc := 1084) F 3 dL_law_1084 (by decide) ?_
        refine j_iadd (pc := 1085) F dL_law_1085 ?_
        obtain ⟨x283, hx283, h⟩ := ob h
        refine j_sld (pc := 1086) F hsc hx283 dL_law_1086 ?_
        refine j_i2l (pc := 1087) F dL_law_1087 ?_
        refine j_bipush (pc := 1088) F 32 dL_law_1088 (by decide) ?_
        refine j_lshl (pc := 1090) F dL_law_1090 ?_
        refine j_aload_n (pc := 1091) (k0 := 0) F 0 rfl dL_law_1091 ?_
        refine j_iload_n (pc := 1092) (k0 := 3) F 3 rfl dL_law_1092 ?_
        refine j_iconst (pc := 1093) F 4 dL_law_1093 (by decide) ?_
        refine j_iadd (pc := 1094) F dL_law_1094 ?_
        obtain ⟨x284, hx284, h⟩ := ob h
        refine j_sld (pc := 1095) F hsc hx284 dL_law_1095 ?_
        refine j_i2l (pc := 1096) F dL_law_1096 ?_
        refine j_ldc2 (pc := 1097) (v := 4294967295) F (good_of 1283 (by decide +kernel) (by decide +kernel)) dL_law_1097 ?_
        refine j_land (pc := 1100) F dL_law_1100 ?_
        refine j_lor (pc := 1101) F dL_law_1101 ?_
        obtain ⟨u285, hu285, h⟩ := ob h
        have hou285 := ck_obt hu285
        obtain ⟨x286, l287, hx286, h⟩ := b2_obt h
        refine j_callV1 (pc := 1102) (ci := 6) (As := [.int x281, .int x282, .long ((x283.toInt64 <<< (Int32.toInt64 32 &&& 63)) ||| (x284.toInt64 &&& 4294967295))]) (st := []) (e1 := e) (es1 := es) F clL_141 cwX6_item rfl hou285 (ctX6_item G hou285 hx286) rfl rfl rfl rfl (Nat.zero_add _).symm (Nat.zero_add _).symm dL_law_1102 ?_
        refine j_aload_n (pc := 1105) (k0 := 2) F 2 rfl dL_law_1105 ?_
        refine j_aload_n (pc := 1106) (k0 := 0) F 0 rfl dL_law_1106 ?_
        refine j_iload_n (pc := 1107) (k0 := 3) F 3 rfl dL_law_1107 ?_
        refine j_iconst (pc := 1108) F 1 dL_law_1108 (by decide) ?_
        refine j_iadd (pc := 1109) F dL_law_1109 ?_
        obtain ⟨x288, hx288, h⟩ := ob h
        refine j_sld (pc := 1110) F hsc hx288 dL_law_1110 ?_
        refine j_aload_n (pc := 1111) (k0 := 0) F 0 rfl dL_law_1111 ?_
        refine j_iload_n (pc := 1112) (k0 := 3) F 3 rfl dL_law_1112 ?_
        refine j_iconst (pc := 1113) F 2 dL_law_1113 (by decide) ?_
        refine j_iadd (pc := 1114) F dL_law_1114 ?_
        obtain ⟨x289, hx289, h⟩ := ob h
        refine j_sld (pc := 1115) F hsc hx289 dL_law_1115 ?_
        refine j_aload_n (pc := 1116) (k0 := 0) F 0 rfl dL_law_1116 ?_
        refine j_iload_n (pc := 1117) (k0 := 3) F 3 rfl dL_law_1117 ?_
        refine j_iconst (pc := 1118) F 3 dL_law_1118 (by decide) ?_
        refine j_iadd (pc := 1119) F dL_law_1119 ?_
        obtain ⟨x290, hx290, h⟩ := ob h
        refine j_sld (pc := 1120) F hsc hx290 dL_law_1120 ?_
        refine j_i2l (pc := 1121) F dL_law_1121 ?_
        refine j_bipush (pc := 1122) F 32 dL_law_1122 (by decide) ?_
        refine j_lshl (pc := 1124) F dL_law_1124 ?_
        refine j_aload_n (pc := 1125) (k0 := 0) F 0 rfl dL_law_1125 ?_
        refine j_iload_n (pc := 1126) (k0 := 3) F 3 rfl dL_law_1126 ?_
        refine j_iconst (pc := 1127) F 4 dL_law_1127 (by decide) ?_
        refine j_iadd (pc := 1128) F dL_law_1128 ?_
        obtain ⟨x291, hx291, h⟩ := ob h
        refine j_sld (pc := 1129) F hsc hx291 dL_law_1129 ?_
        refine j_i2l (pc := 1130) F dL_law_1130 ?_
        refine j_ldc2 (pc := 1131) (v := 4294967295) F (good_of 1283 (by decide +kernel) (by decide +kernel)) dL_law_1131 ?_
        refine j_land (pc := 1134) F dL_law_1134 ?_
        refine j_lor (pc := 1135) F dL_law_1135 ?_
        obtain ⟨u292, hu292, h⟩ := ob h
        have hou292 := ck_obt hu292
        obtain ⟨x293, l294, hx293, h⟩ := b2_obt h
        refine j_callV1 (pc := 1136) (ci := 7) (As := [.int x288, .int x289, .long ((x290.toInt64 <<< (Int32.toInt64 32 &&& 63)) ||| (x291.toInt64 &&& 4294967295))]) (st := [.int x286]) (e1 := e) (es1 := es) F clL_145 cwX7_item rfl hou292 (ctX7_item G hou292 hx293) rfl rfl rfl rfl (Nat.zero_add _).symm (Nat.zero_add _).symm dL_law_1136 ?_
        refine j_icmp_eq (pc := 1139) F 1241 dL_law_1139 rfl (fun c => ?_) (fun c => ?_)
        · have h := iz_t c h
          refine j_iinc (pc := 1241) (k1 := 3) (ls' := [(3, .int (v3 + 6)), (0, .ref bs), (1, .ref v1), (2, .ref v2)]) F (v3 + 6) 3 rfl rfl rfl rfl dL_law_1241 ?_
          refine j_goto (pc := 1244) F 18 dL_law_1244 rfl ?_
          refine j_sub [1, 2, 3, 0] rfl ?_
          exact jbL_law_18 G hsc hq F fuel _ _ _ _ _ _ _ _ _ h
        · have h := iz_f c h
          refine j_iconst (pc := 1142) F 0 dL_law_1142 (by decide) ?_
          exact absurd (Prod.mk.inj (Prod.mk.inj (Option.some.inj h)).2).1 (by decide)
      have h := iz_f c31 h
      by_cases c32 : (x1 &&& 63) = 31
      · have h := iz_t c32 h
        refine j_tabIn (pc := 33) (k0 := 31) F 1144 c32 dL_law_33 (by decide) rfl rfl ?_
        refine j_aload_n (pc := 1144) (k0 := 1) F 1 rfl dL_law_1144 ?_
        refine j_aload_n (pc := 1145) (k0 := 0) F 0 rfl dL_law_1145 ?_
        refine j_iload_n (pc := 1146) (k0 := 3) F 3 rfl dL_law_1146 ?_
        refine j_iconst (pc := 1147) F 1 dL_law_1147 (by decide) ?_
        refine j_iadd (pc := 1148) F dL_law_1148 ?_
        obtain ⟨x295, hx295, h⟩ := ob h
        refine j_sld (pc := 1149) F hsc hx295 dL_law_1149 ?_
        refine j_aload_n (pc := 1150) (k0 := 0) F 0 rfl dL_law_1150 ?_
        refine j_iload_n (pc := 1151) (k0 := 3) F 3 rfl dL_law_1151 ?_
        refine j_iconst (pc := 1152) F 2 dL_law_1152 (by decide) ?_
        refine j_iadd (pc := 1153) F dL_law_1153 ?_
        obtain ⟨x296, hx296, h⟩ := ob h
        refine j_sld (pc := 1154) F hsc hx296 dL_law_1154 ?_
        obtain ⟨u297, hu297, h⟩ := ob h
        have hou297 := ck_obt hu297
        obtain ⟨x298, hx298, h⟩ := ob h
        refine j_callV1 (pc := 1155) (ci := 6) (As := [.int x295, .int x296]) (st := []) (e1 := e) (es1 := es) F clL_146 cwX6_read rfl hou297 (ctX6_read G hou297 hx298) rfl rfl rfl rfl (Nat.zero_add _).symm (Nat.zero_add _).symm dL_law_1155 ?_
        refine j_aload_n (pc := 1158) (k0 := 2) F 2 rfl dL_law_1158 ?_
        refine j_aload_n (pc := 1159) (k0 := 0) F 0 rfl dL_law_1159 ?_
        refine j_iload_n (pc := 1160) (k0 := 3) F 3 rfl dL_law_1160 ?_
        refine j_iconst (pc := 1161) F 1 dL_law_1161 (by decide) ?_
        refine j_iadd (pc := 1162) F dL_law_1162 ?_
        obtain ⟨x299, hx299, h⟩ := ob h
        refine j_sld (pc := 1163) F hsc hx299 dL_law_1163 ?_
        refine j_aload_n (pc := 1164) (k0 := 0) F 0 rfl dL_law_1164 ?_
        refine j_iload_n (pc := 1165) (k0 := 3) F 3 rfl dL_law_1165 ?_
        refine j_iconst (pc := 1166) F 2 dL_law_1166 (by decide) ?_
        refine j_iadd (pc := 1167) F dL_law_1167 ?_
        obtain ⟨x300, hx300, h⟩ := ob h
        refine j_sld (pc := 1168) F hsc hx300 dL_law_1168 ?_
        obtain ⟨u301, hu301, h⟩ := ob h
        have hou301 := ck_obt hu301
        obtain ⟨x302, hx302, h⟩ := ob h
        refine j_callV1 (pc := 1169) (ci := 7) (As := [.int x299, .int x300]) (st := [.long x298]) (e1 := e) (es1 := es) F clL_149 cwX7_read rfl hou301 (ctX7_read G hou301 hx302) rfl rfl rfl rfl (Nat.zero_add _).symm (Nat.zero_add _).symm dL_law_1169 ?_
        refine j_lcmp (pc := 1172) F dL_law_1172 ?_
        refine j_if_eq (pc := 1173) F 1241 dL_law_1173 rfl (fun c => ?_) (fun c => ?_)
        · have h := iz_t c h
          refine j_iinc (pc := 1241) (k1 := 3) (ls' := [(3, .int (v3 + 6)), (0, .ref bs), (1, .ref v1), (2, .ref v2)]) F (v3 + 6) 3 rfl rfl rfl rfl dL_law_1241 ?_
          refine j_goto (pc := 1244) F 18 dL_law_1244 rfl ?_
          refine j_sub [1, 2, 3, 0] rfl ?_
          exact jbL_law_18 G hsc hq F fuel _ _ _ _ _ _ _ _ _ h
        · have h := iz_f c h
          refine j_iconst (pc := 1176) F 0 dL_law_1176 (by decide) ?_
          exact absurd (Prod.mk.inj (Prod.mk.inj (Option.some.inj h)).2).1 (by decide)
      have h := iz_f c32 h
      by_cases c33 : (x1 &&& 63) = 32
      · have h := iz_t c33 h
        refine j_tabIn (pc := 33) (k0 := 32) F 1178 c33 dL_law_33 (by decide) rfl rfl ?_
        refine j_aload_n (pc := 1178) (k0 := 1) F 1 rfl dL_law_1178 ?_
        refine j_aload_n (pc := 1179) (k0 := 0) F 0 rfl dL_law_1179 ?_
        refine j_iload_n (pc := 1180) (k0 := 3) F 3 rfl dL_law_1180 ?_
        refine j_iconst (pc := 1181) F 1 dL_law_1181 (by decide) ?_
        refine j_iadd (pc := 1182) F dL_law_1182 ?_
        obtain ⟨x303, hx303, h⟩ := ob h
        refine j_sld (pc := 1183) F hsc hx303 dL_law_1183 ?_
        refine j_aload_n (pc := 1184) (k0 := 0) F 0 rfl dL_law_1184 ?_
        refine j_iload_n (pc := 1185) (k0 := 3) F 3 rfl dL_law_1185 ?_
        refine j_iconst (pc := 1186) F 2 dL_law_1186 (by decide) ?_
        refine j_iadd (pc := 1187) F dL_law_1187 ?_
        obtain ⟨x304, hx304, h⟩ := ob h
        refine j_sld (pc := 1188) F hsc hx304 dL_law_1188 ?_
        refine j_aload_n (pc := 1189) (k0 := 0) F 0 rfl dL_law_1189 ?_
        refine j_iload_n (pc := 1190) (k0 := 3) F 3 rfl dL_law_1190 ?_
        refine j_iconst (pc := 1191) F 3 dL_law_1191 (by decide) ?_
        refine j_iadd (pc := 1192) F dL_law_1192 ?_
        obtain ⟨x305, hx305, h⟩ := ob h
        refine j_sld (pc := 1193) F hsc hx305 dL_law_1193 ?_
        refine j_aload_n (pc := 1194) (k0 := 0) F 0 rfl dL_law_1194 ?_
        refine j_iload_n (pc := 1195) (k0 := 3) F 3 rfl dL_law_1195 ?_
        refine j_iconst (pc := 1196) F 4 dL_law_1196 (by decide) ?_
        refine j_iadd (pc := 1197) F dL_law_1197 ?_
        obtain ⟨x306, hx306, h⟩ := ob h
        refine j_sld (pc := 1198) F hsc hx306 dL_law_1198 ?_
        refine j_aload_n (pc := 1199) (k0 := 0) F 0 rfl dL_law_1199 ?_
        refine j_iload_n (pc := 1200) (k0 := 3) F 3 rfl dL_law_1200 ?_
        refine j_iconst (pc := 1201) F 5 dL_law_1201 (by decide) ?_
        refine j_iadd (pc := 1202) F dL_law_1202 ?_
        obtain ⟨x307, hx307, h⟩ := ob h
        refine j_sld (pc := 1203) F hsc hx307 dL_law_1203 ?_
        obtain ⟨u308, hu308, h⟩ := ob h
        have hou308 := ck_obt hu308
        obtain ⟨x309, l310, hx309, h⟩ := b2_obt h
        refine j_callV1 (pc := 1204) (ci := 6) (As := [.int x303, .int x304, .int x305, .int x306, .int x307]) (st := []) (e1 := e) (es1 := es) F clL_150 cwX6_shift rfl hou308 (ctX6_shift G hou308 hx309) rfl rfl rfl rfl (Nat.zero_add _).symm (Nat.zero_add _).symm dL_law_1204 ?_
        refine j_aload_n (pc := 1207) (k0 := 2) F 2 rfl dL_law_1207 ?_
        refine j_aload_n (pc := 1208) (k0 := 0) F 0 rfl dL_law_1208 ?_
        refine j_iload_n (pc := 1209) (k0 := 3) F 3 rfl dL_law_1209 ?_
        refine j_iconst (pc := 1210) F 1 dL_law_1210 (by decide) ?_
        refine j_iadd (pc := 1211) F dL_law_1211 ?_
        obtain ⟨x311, hx311, h⟩ := ob h
        refine j_sld (pc := 1212) F hsc hx311 dL_law_1212 ?_
        refine j_aload_n (pc := 1213) (k0 := 0) F 0 rfl dL_law_1213 ?_
        refine j_iload_n (pc := 1214) (k0 := 3) F 3 rfl dL_law_1214 ?_
        refine j_iconst (pc := 1215) F 2 dL_law_1215 (by decide) ?_
        refine j_iadd (pc := 1216) F dL_law_1216 ?_
        obtain ⟨x312, hx312, h⟩ := ob h
        refine j_sld (pc := 1217) F hsc hx312 dL_law_1217 ?_
        refine j_aload_n (pc := 1218) (k0 := 0) F 0 rfl dL_law_1218 ?_
        refine j_iload_n (pc := 1219) (k0 := 3) F 3 rfl dL_law_1219 ?_
        refine j_iconst (pc := 1220) F 3 dL_law_1220 (by decide) ?_
        refine j_iadd (pc := 1221) F dL_law_1221 ?_
        obtain ⟨x313, hx313, h⟩ := ob h
        refine j_sld (pc := 1222) F hsc hx313 dL_law_1222 ?_
        refine j_aload_n (pc := 1223) (k0 := 0) F 0 rfl dL_law_1223 ?_
        refine j_iload_n (pc := 1224) (k0 := 3) F 3 rfl dL_law_1224 ?_
        refine j_iconst (pc := 1225) F 4 dL_law_1225 (by decide) ?_
        refine j_iadd (pc := 1226) F dL_law_1226 ?_
        obtain ⟨x314, hx314, h⟩ := ob h
        refine j_sld (pc := 1227) F hsc hx314 dL_law_1227 ?_
        refine j_aload_n (pc := 1228) (k0 := 0) F 0 rfl dL_law_1228 ?_
        refine j_iload_n (pc := 1229) (k0 := 3) F 3 rfl dL_law_1229 ?_
        refine j_iconst (pc := 1230) F 5 dL_law_1230 (by decide) ?_
        refine j_iadd (pc := 1231) F dL_law_1231 ?_
        obtain ⟨x315, hx315, h⟩ := ob h
        refine j_sld (pc := 1232) F hsc hx315 dL_law_1232 ?_
        obtain ⟨u316, hu316, h⟩ := ob h
        have hou316 := ck_obt hu316
        obtain ⟨x317, l318, hx317, h⟩ := b2_obt h
        refine j_callV1 (pc := 1233) (ci := 7) (As := [.int x311, .int x312, .int x313, .int x314, .int x315]) (st := [.int x309]) (e1 := e) (es1 := es) F clL_154 cwX7_shift rfl hou316 (ctX7_shift G hou316 hx317) rfl rfl rfl rfl (Nat.zero_add _).symm (Nat.zero_add _).symm dL_law_1233 ?_
        refine j_icmp_eq (pc := 1236) F 1241 dL_law_1236 rfl (fun c => ?_) (fun c => ?_)
        · have h := iz_t c h
          refine j_iinc (pc := 1241) (k1 := 3) (ls' := [(3, .int (v3 + 6)), (0, .ref bs), (1, .ref v1), (2, .ref v2)]) F (v3 + 6) 3 rfl rfl rfl rfl dL_law_1241 ?_
          refine j_goto (pc := 1244) F 18 dL_law_1244 rfl ?_
          refine j_sub [1, 2, 3, 0] rfl ?_
          exact jbL_law_18 G hsc hq F fuel _ _ _ _ _ _ _ _ _ h
        · have h := iz_f c h
          refine j_iconst (pc := 1239) F 0 dL_law_1239 (by decide) ?_
          exact absurd (Prod.mk.inj (Prod.mk.inj (Option.some.inj h)).2).1 (by decide)
      have h := iz_f c33 h
      have tc1 := lv_neT (a := 0) c1 (by decide)
      have tc2 := lv_neT (a := 1) c2 (by decide)
      have tc3 := lv_neT (a := 2) c3 (by decide)
      have tc4 := lv_neT (a := 3) c4 (by decide)
      have tc5 := lv_neT (a := 4) c5 (by decide)
      have tc6 := lv_neT (a := 5) c6 (by decide)
      have tc7 := lv_neT (a := 6) c7 (by decide)
      have tc8 := lv_neT (a := 7) c8 (by decide)
      have tc9 := lv_neT (a := 8) c9 (by decide)
      have tc10 := lv_neT (a := 9) c10 (by decide)
      have tc11 := lv_neT (a := 10) c11 (by decide)
      have tc12 := lv_neT (a := 11) c12 (by decide)
      have tc13 := lv_neT (a := 12) c13 (by decide)
      have tc14 := lv_neT (a := 13) c14 (by decide)
      have tc15 := lv_neT (a := 14) c15 (by decide)
      have tc16 := lv_neT (a := 15) c16 (by decide)
      have tc17 := lv_neT (a := 16) c17 (by decide)
      have tc18 := lv_neT (a := 17) c18 (by decide)
      have tc19 := lv_neT (a := 18) c19 (by decide)
      have tc20 := lv_neT (a := 19) c20 (by decide)
      have tc21 := lv_neT (a := 20) c21 (by decide)
      have tc22 := lv_neT (a := 21) c22 (by decide)
      have tc23 := lv_neT (a := 22) c23 (by decide)
      have tc24 := lv_neT (a := 23) c24 (by decide)
      have tc25 := lv_neT (a := 24) c25 (by decide)
      have tc26 := lv_neT (a := 25) c26 (by decide)
      have tc27 := lv_neT (a := 26) c27 (by decide)
      have tc28 := lv_neT (a := 27) c28 (by decide)
      have tc29 := lv_neT (a := 28) c29 (by decide)
      have tc30 := lv_neT (a := 29) c30 (by decide)
      have tc31 := lv_neT (a := 30) c31 (by decide)
      have tc32 := lv_neT (a := 31) c32 (by decide)
      have tc33 := lv_neT (a := 32) c33 (by decide)
      refine j_tabOut (pc := 33) F 1241 dL_law_33 (by omega) rfl ?_
      refine j_iinc (pc := 1241) (k1 := 3) (ls' := [(3, .int (v3 + 6)), (0, .ref bs), (1, .ref v1), (2, .ref v2)]) F (v3 + 6) 3 rfl rfl rfl rfl dL_law_1241 ?_
      refine j_goto (pc := 1244) F 18 dL_law_1244 rfl ?_
      refine j_sub [1, 2, 3, 0] rfl ?_
      exact jbL_law_18 G hsc hq F fuel _ _ _ _ _ _ _ _ _ h
set_option maxHeartbeats 4000000 in
set_option maxRecDepth 20000 in
theorem jbL_law_0 (G : GT) {X : XT}  {sh' : SH} {I' : IH} {L' : LH} {n' : Nat}   {xs : Nat → Int32} {LN bs : Nat} {Q : State → Prop} (hsc : SCR G X bs LN xs) (hq : ∀ {sh : SH} {I : IH} {L : LH} {n pc : Nat} {ls : List (Nat × Value)}, decode cL_law pc = .ok (.ireturn, 1) → J G X Q 4 sh I L n 0 0 pc ls [.int 1]) {sh : SH} {I : IH} {L : LH} {n : Nat} {e es : Nat} (F : MF G X RL cL_law 4 700 (some .boolean) "law") (h : fL_law xs LN sh I L n = some ((e, es), (1, sh', I', L', n'))) : J G X Q 4 sh I L n e es 0 [(0, .ref bs)] [] := by
  unfold fL_law at h
  obtain ⟨h1, i2, hh1, h⟩ := b2_obt h
  cases hh1
  obtain ⟨e3, es4, h, he, hes⟩ := addE_obt h
  refine j_new (pc := 0) F cnL_7 he hes dL_law_0 ?_
  refine j_dup (pc := 3) F dL_law_3 rfl ?_
  obtain ⟨d9, ds10, h5, i6, l7, n8, e11, es12, hh5, h, he, hes⟩ := bE4_obt h
  refine j_callI (pc := 4) (As := []) (st := [.ref n]) (e1 := e11) (es1 := es12) F clL_9 cwX6_init (ctX6_init G hh5) rfl rfl rfl rfl he hes dL_law_4 ?_
  refine j_astore_n (pc := 7) (k1 := 1) (ls' := [(1, .ref n), (0, .ref bs)]) F rfl rfl rfl dL_law_7 ?_
  obtain ⟨h13, i14, hh13, h⟩ := b2_obt h
  cases hh13
  obtain ⟨e15, es16, h, he, hes⟩ := addE_obt h
  refine j_new (pc := 8) F cnL_10 he hes dL_law_8 ?_
  refine j_dup (pc := 11) F dL_law_11 rfl ?_
  obtain ⟨d21, ds22, h17, i18, l19, n20, e23, es24, hh17, h, he, hes⟩ := bE4_obt h
  refine j_callI (pc := 12) (As := []) (st := [.ref n8]) (e1 := e23) (es1 := es24) F clL_12 cwX7_init (ctX7_init G hh17) rfl rfl rfl rfl he hes dL_law_12 ?_
  refine j_astore_n (pc := 15) (k1 := 2) (ls' := [(2, .ref n8), (1, .ref n), (0, .ref bs)]) F rfl rfl rfl dL_law_15 ?_
  refine j_iconst (pc := 16) F 0 dL_law_16 (by decide) ?_
  refine j_istore_n (pc := 17) (k1 := 3) (ls' := [(3, .int 0), (2, .ref n8), (1, .ref n), (0, .ref bs)]) F rfl rfl rfl dL_law_17 ?_
  refine j_sub [3, 2, 1, 0] rfl ?_
  exact jbL_law_18 G hsc hq F 1000 _ _ _ _ _ _ _ _ _ h
