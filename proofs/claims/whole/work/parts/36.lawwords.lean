theorem dL_law_0 : decode cL_law 0 = .ok (.new 7, 3) := by decide +kernel
theorem dL_law_3 : decode cL_law 3 = .ok (.dup, 1) := by decide +kernel
theorem dL_law_4 : decode cL_law 4 = .ok (.invokespecial 9, 3) := by decide +kernel
theorem dL_law_7 : decode cL_law 7 = .ok (.astore_n 1, 1) := by decide +kernel
theorem dL_law_8 : decode cL_law 8 = .ok (.new 10, 3) := by decide +kernel
theorem dL_law_11 : decode cL_law 11 = .ok (.dup, 1) := by decide +kernel
theorem dL_law_12 : decode cL_law 12 = .ok (.invokespecial 12, 3) := by decide +kernel
theorem dL_law_15 : decode cL_law 15 = .ok (.astore_n 2, 1) := by decide +kernel
theorem dL_law_16 : decode cL_law 16 = .ok (.iconst 0, 1) := by decide +kernel
theorem dL_law_17 : decode cL_law 17 = .ok (.istore_n 3, 1) := by decide +kernel
theorem dL_law_18 : decode cL_law 18 = .ok (.iload_n 3, 1) := by decide +kernel
theorem dL_law_19 : decode cL_law 19 = .ok (.aload_n 0, 1) := by decide +kernel
theorem dL_law_20 : decode cL_law 20 = .ok (.arraylength, 1) := by decide +kernel
theorem dL_law_21 : decode cL_law 21 = .ok (.bipush 6, 2) := by decide +kernel
theorem dL_law_23 : decode cL_law 23 = .ok (.isub, 1) := by decide +kernel
theorem dL_law_24 : decode cL_law 24 = .ok (.if_icmp .gt 1448, 3) := by decide +kernel
theorem dL_law_27 : decode cL_law 27 = .ok (.aload_n 0, 1) := by decide +kernel
theorem dL_law_28 : decode cL_law 28 = .ok (.iload_n 3, 1) := by decide +kernel
theorem dL_law_29 : decode cL_law 29 = .ok (.iaload, 1) := by decide +kernel
theorem dL_law_30 : decode cL_law 30 = .ok (.bipush 63, 2) := by decide +kernel
theorem dL_law_32 : decode cL_law 32 = .ok (.iand, 1) := by decide +kernel
theorem dL_law_33 : decode cL_law 33 = .ok (.tableswitch 1433 0 41 #[183, 216, 239, 282, 315, 358, 401, 424, 447, 460, 483, 496, 529, 542, 565, 588, 621, 654, 667, 700, 723, 767, 790, 823, 856, 869, 903, 937, 970, 993, 1026, 1039, 1072, 1085, 1098, 1141, 1164, 1197, 1220, 1263, 1336, 1370], 183) := by decide +kernel
theorem dL_law_216 : decode cL_law 216 = .ok (.aload_n 1, 1) := by decide +kernel
theorem dL_law_217 : decode cL_law 217 = .ok (.aload_n 0, 1) := by decide +kernel
theorem dL_law_218 : decode cL_law 218 = .ok (.iload_n 3, 1) := by decide +kernel
theorem dL_law_219 : decode cL_law 219 = .ok (.iconst 1, 1) := by decide +kernel
theorem dL_law_220 : decode cL_law 220 = .ok (.iadd, 1) := by decide +kernel
theorem dL_law_221 : decode cL_law 221 = .ok (.iaload, 1) := by decide +kernel
theorem dL_law_222 : decode cL_law 222 = .ok (.aload_n 0, 1) := by decide +kernel
theorem dL_law_223 : decode cL_law 223 = .ok (.iload_n 3, 1) := by decide +kernel
theorem dL_law_224 : decode cL_law 224 = .ok (.iconst 2, 1) := by decide +kernel
theorem dL_law_225 : decode cL_law 225 = .ok (.iadd, 1) := by decide +kernel
theorem dL_law_226 : decode cL_law 226 = .ok (.iaload, 1) := by decide +kernel
theorem dL_law_227 : decode cL_law 227 = .ok (.invokevirtual 13, 3) := by decide +kernel
theorem dL_law_230 : decode cL_law 230 = .ok (.aload_n 2, 1) := by decide +kernel
theorem dL_law_231 : decode cL_law 231 = .ok (.aload_n 0, 1) := by decide +kernel
theorem dL_law_232 : decode cL_law 232 = .ok (.iload_n 3, 1) := by decide +kernel
theorem dL_law_233 : decode cL_law 233 = .ok (.iconst 1, 1) := by decide +kernel
theorem dL_law_234 : decode cL_law 234 = .ok (.iadd, 1) := by decide +kernel
theorem dL_law_235 : decode cL_law 235 = .ok (.iaload, 1) := by decide +kernel
theorem dL_law_236 : decode cL_law 236 = .ok (.aload_n 0, 1) := by decide +kernel
theorem dL_law_237 : decode cL_law 237 = .ok (.iload_n 3, 1) := by decide +kernel
theorem dL_law_238 : decode cL_law 238 = .ok (.iconst 2, 1) := by decide +kernel
theorem dL_law_239 : decode cL_law 239 = .ok (.iadd, 1) := by decide +kernel
theorem dL_law_240 : decode cL_law 240 = .ok (.iaload, 1) := by decide +kernel
theorem dL_law_241 : decode cL_law 241 = .ok (.invokevirtual 17, 3) := by decide +kernel
theorem dL_law_244 : decode cL_law 244 = .ok (.if_icmp .eq 1222, 3) := by decide +kernel
theorem dL_law_247 : decode cL_law 247 = .ok (.iconst 0, 1) := by decide +kernel
theorem dL_law_248 : decode cL_law 248 = .ok (.ireturn, 1) := by decide +kernel
theorem dL_law_249 : decode cL_law 249 = .ok (.aload_n 1, 1) := by decide +kernel
theorem dL_law_250 : decode cL_law 250 = .ok (.aload_n 0, 1) := by decide +kernel
theorem dL_law_251 : decode cL_law 251 = .ok (.iload_n 3, 1) := by decide +kernel
theorem dL_law_252 : decode cL_law 252 = .ok (.iconst 1, 1) := by decide +kernel
theorem dL_law_253 : decode cL_law 253 = .ok (.iadd, 1) := by decide +kernel
theorem dL_law_254 : decode cL_law 254 = .ok (.iaload, 1) := by decide +kernel
theorem dL_law_255 : decode cL_law 255 = .ok (.invokevirtual 18, 3) := by decide +kernel
theorem dL_law_258 : decode cL_law 258 = .ok (.aload_n 2, 1) := by decide +kernel
theorem dL_law_259 : decode cL_law 259 = .ok (.aload_n 0, 1) := by decide +kernel
theorem dL_law_260 : decode cL_law 260 = .ok (.iload_n 3, 1) := by decide +kernel
theorem dL_law_261 : decode cL_law 261 = .ok (.iconst 1, 1) := by decide +kernel
theorem dL_law_262 : decode cL_law 262 = .ok (.iadd, 1) := by decide +kernel
theorem dL_law_263 : decode cL_law 263 = .ok (.iaload, 1) := by decide +kernel
theorem dL_law_264 : decode cL_law 264 = .ok (.invokevirtual 22, 3) := by decide +kernel
theorem dL_law_267 : decode cL_law 267 = .ok (.if_icmp .eq 1199, 3) := by decide +kernel
theorem dL_law_270 : decode cL_law 270 = .ok (.iconst 0, 1) := by decide +kernel
theorem dL_law_271 : decode cL_law 271 = .ok (.ireturn, 1) := by decide +kernel
theorem dL_law_272 : decode cL_law 272 = .ok (.aload_n 1, 1) := by decide +kernel
theorem dL_law_273 : decode cL_law 273 = .ok (.aload_n 0, 1) := by decide +kernel
theorem dL_law_274 : decode cL_law 274 = .ok (.iload_n 3, 1) := by decide +kernel
theorem dL_law_275 : decode cL_law 275 = .ok (.iconst 1, 1) := by decide +kernel
theorem dL_law_276 : decode cL_law 276 = .ok (.iadd, 1) := by decide +kernel
theorem dL_law_277 : decode cL_law 277 = .ok (.iaload, 1) := by decide +kernel
theorem dL_law_278 : decode cL_law 278 = .ok (.aload_n 0, 1) := by decide +kernel
theorem dL_law_279 : decode cL_law 279 = .ok (.iload_n 3, 1) := by decide +kernel
theorem dL_law_280 : decode cL_law 280 = .ok (.iconst 2, 1) := by decide +kernel
theorem dL_law_281 : decode cL_law 281 = .ok (.iadd, 1) := by decide +kernel
theorem dL_law_282 : decode cL_law 282 = .ok (.iaload, 1) := by decide +kernel
theorem dL_law_283 : decode cL_law 283 = .ok (.aload_n 0, 1) := by decide +kernel
theorem dL_law_284 : decode cL_law 284 = .ok (.iload_n 3, 1) := by decide +kernel
theorem dL_law_285 : decode cL_law 285 = .ok (.iconst 3, 1) := by decide +kernel
theorem dL_law_286 : decode cL_law 286 = .ok (.iadd, 1) := by decide +kernel
theorem dL_law_287 : decode cL_law 287 = .ok (.iaload, 1) := by decide +kernel
theorem dL_law_288 : decode cL_law 288 = .ok (.invokevirtual 23, 3) := by decide +kernel
theorem dL_law_291 : decode cL_law 291 = .ok (.aload_n 2, 1) := by decide +kernel
theorem dL_law_292 : decode cL_law 292 = .ok (.aload_n 0, 1) := by decide +kernel
theorem dL_law_293 : decode cL_law 293 = .ok (.iload_n 3, 1) := by decide +kernel
theorem dL_law_294 : decode cL_law 294 = .ok (.iconst 1, 1) := by decide +kernel
theorem dL_law_295 : decode cL_law 295 = .ok (.iadd, 1) := by decide +kernel
theorem dL_law_296 : decode cL_law 296 = .ok (.iaload, 1) := by decide +kernel
theorem dL_law_297 : decode cL_law 297 = .ok (.aload_n 0, 1) := by decide +kernel
theorem dL_law_298 : decode cL_law 298 = .ok (.iload_n 3, 1) := by decide +kernel
theorem dL_law_299 : decode cL_law 299 = .ok (.iconst 2, 1) := by decide +kernel
theorem dL_law_300 : decode cL_law 300 = .ok (.iadd, 1) := by decide +kernel
theorem dL_law_301 : decode cL_law 301 = .ok (.iaload, 1) := by decide +kernel
theorem dL_law_302 : decode cL_law 302 = .ok (.aload_n 0, 1) := by decide +kernel
theorem dL_law_303 : decode cL_law 303 = .ok (.iload_n 3, 1) := by decide +kernel
theorem dL_law_304 : decode cL_law 304 = .ok (.iconst 3, 1) := by decide +kernel
theorem dL_law_305 : decode cL_law 305 = .ok (.iadd, 1) := by decide +kernel
theorem dL_law_306 : decode cL_law 306 = .ok (.iaload, 1) := by decide +kernel
theorem dL_law_307 : decode cL_law 307 = .ok (.invokevirtual 27, 3) := by decide +kernel
theorem dL_law_310 : decode cL_law 310 = .ok (.if_icmp .eq 1156, 3) := by decide +kernel
theorem dL_law_313 : decode cL_law 313 = .ok (.iconst 0, 1) := by decide +kernel
theorem dL_law_314 : decode cL_law 314 = .ok (.ireturn, 1) := by decide +kernel
theorem dL_law_315 : decode cL_law 315 = .ok (.aload_n 1, 1) := by decide +kernel
theorem dL_law_316 : decode cL_law 316 = .ok (.aload_n 0, 1) := by decide +kernel
theorem dL_law_317 : decode cL_law 317 = .ok (.iload_n 3, 1) := by decide +kernel
theorem dL_law_318 : decode cL_law 318 = .ok (.iconst 1, 1) := by decide +kernel
theorem dL_law_319 : decode cL_law 319 = .ok (.iadd, 1) := by decide +kernel
theorem dL_law_320 : decode cL_law 320 = .ok (.iaload, 1) := by decide +kernel
theorem dL_law_321 : decode cL_law 321 = .ok (.aload_n 0, 1) := by decide +kernel
theorem dL_law_322 : decode cL_law 322 = .ok (.iload_n 3, 1) := by decide +kernel
theorem dL_law_323 : decode cL_law 323 = .ok (.iconst 2, 1) := by decide +kernel
theorem dL_law_324 : decode cL_law 324 = .ok (.iadd, 1) := by decide +kernel
theorem dL_law_325 : decode cL_law 325 = .ok (.iaload, 1) := by decide +kernel
theorem dL_law_326 : decode cL_law 326 = .ok (.invokevirtual 28, 3) := by decide +kernel
theorem dL_law_329 : decode cL_law 329 = .ok (.aload_n 2, 1) := by decide +kernel
theorem dL_law_330 : decode cL_law 330 = .ok (.aload_n 0, 1) := by decide +kernel
theorem dL_law_331 : decode cL_law 331 = .ok (.iload_n 3, 1) := by decide +kernel
theorem dL_law_332 : decode cL_law 332 = .ok (.iconst 1, 1) := by decide +kernel
theorem dL_law_333 : decode cL_law 333 = .ok (.iadd, 1) := by decide +kernel
theorem dL_law_334 : decode cL_law 334 = .ok (.iaload, 1) := by decide +kernel
theorem dL_law_335 : decode cL_law 335 = .ok (.aload_n 0, 1) := by decide +kernel
theorem dL_law_336 : decode cL_law 336 = .ok (.iload_n 3, 1) := by decide +kernel
theorem dL_law_337 : decode cL_law 337 = .ok (.iconst 2, 1) := by decide +kernel
theorem dL_law_338 : decode cL_law 338 = .ok (.iadd, 1) := by decide +kernel
theorem dL_law_339 : decode cL_law 339 = .ok (.iaload, 1) := by decide +kernel
theorem dL_law_340 : decode cL_law 340 = .ok (.invokevirtual 31, 3) := by decide +kernel
theorem dL_law_343 : decode cL_law 343 = .ok (.if_icmp .eq 1123, 3) := by decide +kernel
theorem dL_law_346 : decode cL_law 346 = .ok (.iconst 0, 1) := by decide +kernel
theorem dL_law_347 : decode cL_law 347 = .ok (.ireturn, 1) := by decide +kernel
theorem dL_law_348 : decode cL_law 348 = .ok (.aload_n 1, 1) := by decide +kernel
theorem dL_law_349 : decode cL_law 349 = .ok (.aload_n 0, 1) := by decide +kernel
theorem dL_law_350 : decode cL_law 350 = .ok (.iload_n 3, 1) := by decide +kernel
theorem dL_law_351 : decode cL_law 351 = .ok (.iconst 1, 1) := by decide +kernel
theorem dL_law_352 : decode cL_law 352 = .ok (.iadd, 1) := by decide +kernel
theorem dL_law_353 : decode cL_law 353 = .ok (.iaload, 1) := by decide +kernel
theorem dL_law_354 : decode cL_law 354 = .ok (.aload_n 0, 1) := by decide +kernel
theorem dL_law_355 : decode cL_law 355 = .ok (.iload_n 3, 1) := by decide +kernel
theorem dL_law_356 : decode cL_law 356 = .ok (.iconst 2, 1) := by decide +kernel
theorem dL_law_357 : decode cL_law 357 = .ok (.iadd, 1) := by decide +kernel
theorem dL_law_358 : decode cL_law 358 = .ok (.iaload, 1) := by decide +kernel
theorem dL_law_359 : decode cL_law 359 = .ok (.aload_n 0, 1) := by decide +kernel
theorem dL_law_360 : decode cL_law 360 = .ok (.iload_n 3, 1) := by decide +kernel
theorem dL_law_361 : decode cL_law 361 = .ok (.iconst 3, 1) := by decide +kernel
theorem dL_law_362 : decode cL_law 362 = .ok (.iadd, 1) := by decide +kernel
theorem dL_law_363 : decode cL_law 363 = .ok (.iaload, 1) := by decide +kernel
theorem dL_law_364 : decode cL_law 364 = .ok (.invokevirtual 32, 3) := by decide +kernel
theorem dL_law_367 : decode cL_law 367 = .ok (.aload_n 2, 1) := by decide +kernel
theorem dL_law_368 : decode cL_law 368 = .ok (.aload_n 0, 1) := by decide +kernel
theorem dL_law_369 : decode cL_law 369 = .ok (.iload_n 3, 1) := by decide +kernel
theorem dL_law_370 : decode cL_law 370 = .ok (.iconst 1, 1) := by decide +kernel
theorem dL_law_371 : decode cL_law 371 = .ok (.iadd, 1) := by decide +kernel
theorem dL_law_372 : decode cL_law 372 = .ok (.iaload, 1) := by decide +kernel
theorem dL_law_373 : decode cL_law 373 = .ok (.aload_n 0, 1) := by decide +kernel
theorem dL_law_374 : decode cL_law 374 = .ok (.iload_n 3, 1) := by decide +kernel
theorem dL_law_375 : decode cL_law 375 = .ok (.iconst 2, 1) := by decide +kernel
theorem dL_law_376 : decode cL_law 376 = .ok (.iadd, 1) := by decide +kernel
theorem dL_law_377 : decode cL_law 377 = .ok (.iaload, 1) := by decide +kernel
theorem dL_law_378 : decode cL_law 378 = .ok (.aload_n 0, 1) := by decide +kernel
theorem dL_law_379 : decode cL_law 379 = .ok (.iload_n 3, 1) := by decide +kernel
theorem dL_law_380 : decode cL_law 380 = .ok (.iconst 3, 1) := by decide +kernel
theorem dL_law_381 : decode cL_law 381 = .ok (.iadd, 1) := by decide +kernel
theorem dL_law_382 : decode cL_law 382 = .ok (.iaload, 1) := by decide +kernel
theorem dL_law_383 : decode cL_law 383 = .ok (.invokevirtual 35, 3) := by decide +kernel
theorem dL_law_386 : decode cL_law 386 = .ok (.if_icmp .eq 1080, 3) := by decide +kernel
theorem dL_law_389 : decode cL_law 389 = .ok (.iconst 0, 1) := by decide +kernel
theorem dL_law_390 : decode cL_law 390 = .ok (.ireturn, 1) := by decide +kernel
theorem dL_law_391 : decode cL_law 391 = .ok (.aload_n 1, 1) := by decide +kernel
theorem dL_law_392 : decode cL_law 392 = .ok (.aload_n 0, 1) := by decide +kernel
theorem dL_law_393 : decode cL_law 393 = .ok (.iload_n 3, 1) := by decide +kernel
theorem dL_law_394 : decode cL_law 394 = .ok (.iconst 1, 1) := by decide +kernel
theorem dL_law_395 : decode cL_law 395 = .ok (.iadd, 1) := by decide +kernel
theorem dL_law_396 : decode cL_law 396 = .ok (.iaload, 1) := by decide +kernel
theorem dL_law_397 : decode cL_law 397 = .ok (.aload_n 0, 1) := by decide +kernel
theorem dL_law_398 : decode cL_law 398 = .ok (.iload_n 3, 1) := by decide +kernel
theorem dL_law_399 : decode cL_law 399 = .ok (.iconst 2, 1) := by decide +kernel
theorem dL_law_400 : decode cL_law 400 = .ok (.iadd, 1) := by decide +kernel
theorem dL_law_401 : decode cL_law 401 = .ok (.iaload, 1) := by decide +kernel
theorem dL_law_402 : decode cL_law 402 = .ok (.aload_n 0, 1) := by decide +kernel
theorem dL_law_403 : decode cL_law 403 = .ok (.iload_n 3, 1) := by decide +kernel
theorem dL_law_404 : decode cL_law 404 = .ok (.iconst 3, 1) := by decide +kernel
theorem dL_law_405 : decode cL_law 405 = .ok (.iadd, 1) := by decide +kernel
theorem dL_law_406 : decode cL_law 406 = .ok (.iaload, 1) := by decide +kernel
theorem dL_law_407 : decode cL_law 407 = .ok (.invokevirtual 36, 3) := by decide +kernel
theorem dL_law_410 : decode cL_law 410 = .ok (.aload_n 2, 1) := by decide +kernel
theorem dL_law_411 : decode cL_law 411 = .ok (.aload_n 0, 1) := by decide +kernel
theorem dL_law_412 : decode cL_law 412 = .ok (.iload_n 3, 1) := by decide +kernel
theorem dL_law_413 : decode cL_law 413 = .ok (.iconst 1, 1) := by decide +kernel
theorem dL_law_414 : decode cL_law 414 = .ok (.iadd, 1) := by decide +kernel
theorem dL_law_415 : decode cL_law 415 = .ok (.iaload, 1) := by decide +kernel
theorem dL_law_416 : decode cL_law 416 = .ok (.aload_n 0, 1) := by decide +kernel
theorem dL_law_417 : decode cL_law 417 = .ok (.iload_n 3, 1) := by decide +kernel
theorem dL_law_418 : decode cL_law 418 = .ok (.iconst 2, 1) := by decide +kernel
theorem dL_law_419 : decode cL_law 419 = .ok (.iadd, 1) := by decide +kernel
theorem dL_law_420 : decode cL_law 420 = .ok (.iaload, 1) := by decide +kernel
theorem dL_law_421 : decode cL_law 421 = .ok (.aload_n 0, 1) := by decide +kernel
theorem dL_law_422 : decode cL_law 422 = .ok (.iload_n 3, 1) := by decide +kernel
theorem dL_law_423 : decode cL_law 423 = .ok (.iconst 3, 1) := by decide +kernel
theorem dL_law_424 : decode cL_law 424 = .ok (.iadd, 1) := by decide +kernel
theorem dL_law_425 : decode cL_law 425 = .ok (.iaload, 1) := by decide +kernel
theorem dL_law_426 : decode cL_law 426 = .ok (.invokevirtual 39, 3) := by decide +kernel
theorem dL_law_429 : decode cL_law 429 = .ok (.if_icmp .eq 1037, 3) := by decide +kernel
theorem dL_law_432 : decode cL_law 432 = .ok (.iconst 0, 1) := by decide +kernel
theorem dL_law_433 : decode cL_law 433 = .ok (.ireturn, 1) := by decide +kernel
theorem dL_law_434 : decode cL_law 434 = .ok (.aload_n 1, 1) := by decide +kernel
theorem dL_law_435 : decode cL_law 435 = .ok (.aload_n 0, 1) := by decide +kernel
theorem dL_law_436 : decode cL_law 436 = .ok (.iload_n 3, 1) := by decide +kernel
theorem dL_law_437 : decode cL_law 437 = .ok (.iconst 1, 1) := by decide +kernel
theorem dL_law_438 : decode cL_law 438 = .ok (.iadd, 1) := by decide +kernel
theorem dL_law_439 : decode cL_law 439 = .ok (.iaload, 1) := by decide +kernel
theorem dL_law_440 : decode cL_law 440 = .ok (.invokevirtual 40, 3) := by decide +kernel
theorem dL_law_443 : decode cL_law 443 = .ok (.aload_n 2, 1) := by decide +kernel
theorem dL_law_444 : decode cL_law 444 = .ok (.aload_n 0, 1) := by decide +kernel
theorem dL_law_445 : decode cL_law 445 = .ok (.iload_n 3, 1) := by decide +kernel
theorem dL_law_446 : decode cL_law 446 = .ok (.iconst 1, 1) := by decide +kernel
theorem dL_law_447 : decode cL_law 447 = .ok (.iadd, 1) := by decide +kernel
theorem dL_law_448 : decode cL_law 448 = .ok (.iaload, 1) := by decide +kernel
theorem dL_law_449 : decode cL_law 449 = .ok (.invokevirtual 43, 3) := by decide +kernel
theorem dL_law_452 : decode cL_law 452 = .ok (.if_icmp .eq 1014, 3) := by decide +kernel
theorem dL_law_455 : decode cL_law 455 = .ok (.iconst 0, 1) := by decide +kernel
theorem dL_law_456 : decode cL_law 456 = .ok (.ireturn, 1) := by decide +kernel
theorem dL_law_457 : decode cL_law 457 = .ok (.aload_n 1, 1) := by decide +kernel
theorem dL_law_458 : decode cL_law 458 = .ok (.aload_n 0, 1) := by decide +kernel
theorem dL_law_459 : decode cL_law 459 = .ok (.iload_n 3, 1) := by decide +kernel
theorem dL_law_460 : decode cL_law 460 = .ok (.iconst 1, 1) := by decide +kernel
theorem dL_law_461 : decode cL_law 461 = .ok (.iadd, 1) := by decide +kernel
theorem dL_law_462 : decode cL_law 462 = .ok (.iaload, 1) := by decide +kernel
theorem dL_law_463 : decode cL_law 463 = .ok (.invokevirtual 44, 3) := by decide +kernel
theorem dL_law_466 : decode cL_law 466 = .ok (.aload_n 2, 1) := by decide +kernel
theorem dL_law_467 : decode cL_law 467 = .ok (.aload_n 0, 1) := by decide +kernel
theorem dL_law_468 : decode cL_law 468 = .ok (.iload_n 3, 1) := by decide +kernel
theorem dL_law_469 : decode cL_law 469 = .ok (.iconst 1, 1) := by decide +kernel
theorem dL_law_470 : decode cL_law 470 = .ok (.iadd, 1) := by decide +kernel
theorem dL_law_471 : decode cL_law 471 = .ok (.iaload, 1) := by decide +kernel
theorem dL_law_472 : decode cL_law 472 = .ok (.invokevirtual 47, 3) := by decide +kernel
theorem dL_law_475 : decode cL_law 475 = .ok (.if_icmp .eq 991, 3) := by decide +kernel
theorem dL_law_478 : decode cL_law 478 = .ok (.iconst 0, 1) := by decide +kernel
theorem dL_law_479 : decode cL_law 479 = .ok (.ireturn, 1) := by decide +kernel
theorem dL_law_480 : decode cL_law 480 = .ok (.aload_n 1, 1) := by decide +kernel
theorem dL_law_481 : decode cL_law 481 = .ok (.invokevirtual 48, 3) := by decide +kernel
theorem dL_law_484 : decode cL_law 484 = .ok (.aload_n 2, 1) := by decide +kernel
theorem dL_law_485 : decode cL_law 485 = .ok (.invokevirtual 52, 3) := by decide +kernel
theorem dL_law_488 : decode cL_law 488 = .ok (.if_icmp .eq 978, 3) := by decide +kernel
theorem dL_law_491 : decode cL_law 491 = .ok (.iconst 0, 1) := by decide +kernel
theorem dL_law_492 : decode cL_law 492 = .ok (.ireturn, 1) := by decide +kernel
theorem dL_law_493 : decode cL_law 493 = .ok (.aload_n 1, 1) := by decide +kernel
theorem dL_law_494 : decode cL_law 494 = .ok (.aload_n 0, 1) := by decide +kernel
theorem dL_law_495 : decode cL_law 495 = .ok (.iload_n 3, 1) := by decide +kernel
theorem dL_law_496 : decode cL_law 496 = .ok (.iconst 1, 1) := by decide +kernel
theorem dL_law_497 : decode cL_law 497 = .ok (.iadd, 1) := by decide +kernel
theorem dL_law_498 : decode cL_law 498 = .ok (.iaload, 1) := by decide +kernel
theorem dL_law_499 : decode cL_law 499 = .ok (.invokevirtual 53, 3) := by decide +kernel
theorem dL_law_502 : decode cL_law 502 = .ok (.aload_n 2, 1) := by decide +kernel
theorem dL_law_503 : decode cL_law 503 = .ok (.aload_n 0, 1) := by decide +kernel
theorem dL_law_504 : decode cL_law 504 = .ok (.iload_n 3, 1) := by decide +kernel
theorem dL_law_505 : decode cL_law 505 = .ok (.iconst 1, 1) := by decide +kernel
theorem dL_law_506 : decode cL_law 506 = .ok (.iadd, 1) := by decide +kernel
theorem dL_law_507 : decode cL_law 507 = .ok (.iaload, 1) := by decide +kernel
theorem dL_law_508 : decode cL_law 508 = .ok (.invokevirtual 56, 3) := by decide +kernel
theorem dL_law_511 : decode cL_law 511 = .ok (.if_icmp .eq 955, 3) := by decide +kernel
theorem dL_law_514 : decode cL_law 514 = .ok (.iconst 0, 1) := by decide +kernel
theorem dL_law_515 : decode cL_law 515 = .ok (.ireturn, 1) := by decide +kernel
theorem dL_law_516 : decode cL_law 516 = .ok (.aload_n 1, 1) := by decide +kernel
theorem dL_law_517 : decode cL_law 517 = .ok (.invokevirtual 57, 3) := by decide +kernel
theorem dL_law_520 : decode cL_law 520 = .ok (.aload_n 2, 1) := by decide +kernel
theorem dL_law_521 : decode cL_law 521 = .ok (.invokevirtual 60, 3) := by decide +kernel
theorem dL_law_524 : decode cL_law 524 = .ok (.if_icmp .eq 942, 3) := by decide +kernel
theorem dL_law_527 : decode cL_law 527 = .ok (.iconst 0, 1) := by decide +kernel
theorem dL_law_528 : decode cL_law 528 = .ok (.ireturn, 1) := by decide +kernel
theorem dL_law_529 : decode cL_law 529 = .ok (.aload_n 1, 1) := by decide +kernel
theorem dL_law_530 : decode cL_law 530 = .ok (.aload_n 0, 1) := by decide +kernel
theorem dL_law_531 : decode cL_law 531 = .ok (.iload_n 3, 1) := by decide +kernel
theorem dL_law_532 : decode cL_law 532 = .ok (.iconst 1, 1) := by decide +kernel
theorem dL_law_533 : decode cL_law 533 = .ok (.iadd, 1) := by decide +kernel
theorem dL_law_534 : decode cL_law 534 = .ok (.iaload, 1) := by decide +kernel
theorem dL_law_535 : decode cL_law 535 = .ok (.aload_n 0, 1) := by decide +kernel
theorem dL_law_536 : decode cL_law 536 = .ok (.iload_n 3, 1) := by decide +kernel
theorem dL_law_537 : decode cL_law 537 = .ok (.iconst 2, 1) := by decide +kernel
theorem dL_law_538 : decode cL_law 538 = .ok (.iadd, 1) := by decide +kernel
theorem dL_law_539 : decode cL_law 539 = .ok (.iaload, 1) := by decide +kernel
theorem dL_law_540 : decode cL_law 540 = .ok (.invokevirtual 61, 3) := by decide +kernel
theorem dL_law_543 : decode cL_law 543 = .ok (.aload_n 2, 1) := by decide +kernel
theorem dL_law_544 : decode cL_law 544 = .ok (.aload_n 0, 1) := by decide +kernel
theorem dL_law_545 : decode cL_law 545 = .ok (.iload_n 3, 1) := by decide +kernel
theorem dL_law_546 : decode cL_law 546 = .ok (.iconst 1, 1) := by decide +kernel
theorem dL_law_547 : decode cL_law 547 = .ok (.iadd, 1) := by decide +kernel
theorem dL_law_548 : decode cL_law 548 = .ok (.iaload, 1) := by decide +kernel
theorem dL_law_549 : decode cL_law 549 = .ok (.aload_n 0, 1) := by decide +kernel
theorem dL_law_550 : decode cL_law 550 = .ok (.iload_n 3, 1) := by decide +kernel
theorem dL_law_551 : decode cL_law 551 = .ok (.iconst 2, 1) := by decide +kernel
theorem dL_law_552 : decode cL_law 552 = .ok (.iadd, 1) := by decide +kernel
theorem dL_law_553 : decode cL_law 553 = .ok (.iaload, 1) := by decide +kernel
theorem dL_law_554 : decode cL_law 554 = .ok (.invokevirtual 64, 3) := by decide +kernel
theorem dL_law_557 : decode cL_law 557 = .ok (.if_icmp .eq 909, 3) := by decide +kernel
theorem dL_law_560 : decode cL_law 560 = .ok (.iconst 0, 1) := by decide +kernel
theorem dL_law_561 : decode cL_law 561 = .ok (.ireturn, 1) := by decide +kernel
theorem dL_law_562 : decode cL_law 562 = .ok (.aload_n 1, 1) := by decide +kernel
theorem dL_law_563 : decode cL_law 563 = .ok (.invokevirtual 65, 3) := by decide +kernel
theorem dL_law_566 : decode cL_law 566 = .ok (.aload_n 2, 1) := by decide +kernel
theorem dL_law_567 : decode cL_law 567 = .ok (.invokevirtual 68, 3) := by decide +kernel
theorem dL_law_570 : decode cL_law 570 = .ok (.if_icmp .eq 896, 3) := by decide +kernel
theorem dL_law_573 : decode cL_law 573 = .ok (.iconst 0, 1) := by decide +kernel
theorem dL_law_574 : decode cL_law 574 = .ok (.ireturn, 1) := by decide +kernel
theorem dL_law_575 : decode cL_law 575 = .ok (.aload_n 1, 1) := by decide +kernel
theorem dL_law_576 : decode cL_law 576 = .ok (.aload_n 0, 1) := by decide +kernel
theorem dL_law_577 : decode cL_law 577 = .ok (.iload_n 3, 1) := by decide +kernel
theorem dL_law_578 : decode cL_law 578 = .ok (.iconst 1, 1) := by decide +kernel
theorem dL_law_579 : decode cL_law 579 = .ok (.iadd, 1) := by decide +kernel
theorem dL_law_580 : decode cL_law 580 = .ok (.iaload, 1) := by decide +kernel
theorem dL_law_581 : decode cL_law 581 = .ok (.invokevirtual 69, 3) := by decide +kernel
theorem dL_law_584 : decode cL_law 584 = .ok (.aload_n 2, 1) := by decide +kernel
theorem dL_law_585 : decode cL_law 585 = .ok (.aload_n 0, 1) := by decide +kernel
theorem dL_law_586 : decode cL_law 586 = .ok (.iload_n 3, 1) := by decide +kernel
theorem dL_law_587 : decode cL_law 587 = .ok (.iconst 1, 1) := by decide +kernel
theorem dL_law_588 : decode cL_law 588 = .ok (.iadd, 1) := by decide +kernel
theorem dL_law_589 : decode cL_law 589 = .ok (.iaload, 1) := by decide +kernel
theorem dL_law_590 : decode cL_law 590 = .ok (.invokevirtual 72, 3) := by decide +kernel
theorem dL_law_593 : decode cL_law 593 = .ok (.if_icmp .eq 873, 3) := by decide +kernel
theorem dL_law_596 : decode cL_law 596 = .ok (.iconst 0, 1) := by decide +kernel
theorem dL_law_597 : decode cL_law 597 = .ok (.ireturn, 1) := by decide +kernel
theorem dL_law_598 : decode cL_law 598 = .ok (.aload_n 1, 1) := by decide +kernel
theorem dL_law_599 : decode cL_law 599 = .ok (.aload_n 0, 1) := by decide +kernel
theorem dL_law_600 : decode cL_law 600 = .ok (.iload_n 3, 1) := by decide +kernel
theorem dL_law_601 : decode cL_law 601 = .ok (.iconst 1, 1) := by decide +kernel
theorem dL_law_602 : decode cL_law 602 = .ok (.iadd, 1) := by decide +kernel
theorem dL_law_603 : decode cL_law 603 = .ok (.iaload, 1) := by decide +kernel
theorem dL_law_604 : decode cL_law 604 = .ok (.invokevirtual 73, 3) := by decide +kernel
theorem dL_law_607 : decode cL_law 607 = .ok (.aload_n 2, 1) := by decide +kernel
theorem dL_law_608 : decode cL_law 608 = .ok (.aload_n 0, 1) := by decide +kernel
theorem dL_law_609 : decode cL_law 609 = .ok (.iload_n 3, 1) := by decide +kernel
theorem dL_law_610 : decode cL_law 610 = .ok (.iconst 1, 1) := by decide +kernel
theorem dL_law_611 : decode cL_law 611 = .ok (.iadd, 1) := by decide +kernel
theorem dL_law_612 : decode cL_law 612 = .ok (.iaload, 1) := by decide +kernel
theorem dL_law_613 : decode cL_law 613 = .ok (.invokevirtual 76, 3) := by decide +kernel
theorem dL_law_616 : decode cL_law 616 = .ok (.if_icmp .eq 850, 3) := by decide +kernel
theorem dL_law_619 : decode cL_law 619 = .ok (.iconst 0, 1) := by decide +kernel
theorem dL_law_620 : decode cL_law 620 = .ok (.ireturn, 1) := by decide +kernel
theorem dL_law_621 : decode cL_law 621 = .ok (.aload_n 1, 1) := by decide +kernel
theorem dL_law_622 : decode cL_law 622 = .ok (.aload_n 0, 1) := by decide +kernel
theorem dL_law_623 : decode cL_law 623 = .ok (.iload_n 3, 1) := by decide +kernel
theorem dL_law_624 : decode cL_law 624 = .ok (.iconst 1, 1) := by decide +kernel
theorem dL_law_625 : decode cL_law 625 = .ok (.iadd, 1) := by decide +kernel
theorem dL_law_626 : decode cL_law 626 = .ok (.iaload, 1) := by decide +kernel
theorem dL_law_627 : decode cL_law 627 = .ok (.aload_n 0, 1) := by decide +kernel
theorem dL_law_628 : decode cL_law 628 = .ok (.iload_n 3, 1) := by decide +kernel
theorem dL_law_629 : decode cL_law 629 = .ok (.iconst 2, 1) := by decide +kernel
theorem dL_law_630 : decode cL_law 630 = .ok (.iadd, 1) := by decide +kernel
theorem dL_law_631 : decode cL_law 631 = .ok (.iaload, 1) := by decide +kernel
theorem dL_law_632 : decode cL_law 632 = .ok (.invokevirtual 77, 3) := by decide +kernel
theorem dL_law_635 : decode cL_law 635 = .ok (.aload_n 2, 1) := by decide +kernel
theorem dL_law_636 : decode cL_law 636 = .ok (.aload_n 0, 1) := by decide +kernel
theorem dL_law_637 : decode cL_law 637 = .ok (.iload_n 3, 1) := by decide +kernel
theorem dL_law_638 : decode cL_law 638 = .ok (.iconst 1, 1) := by decide +kernel
theorem dL_law_639 : decode cL_law 639 = .ok (.iadd, 1) := by decide +kernel
theorem dL_law_640 : decode cL_law 640 = .ok (.iaload, 1) := by decide +kernel
theorem dL_law_641 : decode cL_law 641 = .ok (.aload_n 0, 1) := by decide +kernel
theorem dL_law_642 : decode cL_law 642 = .ok (.iload_n 3, 1) := by decide +kernel
theorem dL_law_643 : decode cL_law 643 = .ok (.iconst 2, 1) := by decide +kernel
theorem dL_law_644 : decode cL_law 644 = .ok (.iadd, 1) := by decide +kernel
theorem dL_law_645 : decode cL_law 645 = .ok (.iaload, 1) := by decide +kernel
theorem dL_law_646 : decode cL_law 646 = .ok (.invokevirtual 80, 3) := by decide +kernel
theorem dL_law_649 : decode cL_law 649 = .ok (.if_icmp .eq 817, 3) := by decide +kernel
theorem dL_law_652 : decode cL_law 652 = .ok (.iconst 0, 1) := by decide +kernel
theorem dL_law_653 : decode cL_law 653 = .ok (.ireturn, 1) := by decide +kernel
theorem dL_law_654 : decode cL_law 654 = .ok (.aload_n 1, 1) := by decide +kernel
theorem dL_law_655 : decode cL_law 655 = .ok (.aload_n 0, 1) := by decide +kernel
theorem dL_law_656 : decode cL_law 656 = .ok (.iload_n 3, 1) := by decide +kernel
theorem dL_law_657 : decode cL_law 657 = .ok (.iconst 1, 1) := by decide +kernel
theorem dL_law_658 : decode cL_law 658 = .ok (.iadd, 1) := by decide +kernel
theorem dL_law_659 : decode cL_law 659 = .ok (.iaload, 1) := by decide +kernel
theorem dL_law_660 : decode cL_law 660 = .ok (.aload_n 0, 1) := by decide +kernel
theorem dL_law_661 : decode cL_law 661 = .ok (.iload_n 3, 1) := by decide +kernel
theorem dL_law_662 : decode cL_law 662 = .ok (.iconst 2, 1) := by decide +kernel
theorem dL_law_663 : decode cL_law 663 = .ok (.iadd, 1) := by decide +kernel
theorem dL_law_664 : decode cL_law 664 = .ok (.iaload, 1) := by decide +kernel
theorem dL_law_665 : decode cL_law 665 = .ok (.invokevirtual 81, 3) := by decide +kernel
theorem dL_law_668 : decode cL_law 668 = .ok (.aload_n 2, 1) := by decide +kernel
theorem dL_law_669 : decode cL_law 669 = .ok (.aload_n 0, 1) := by decide +kernel
theorem dL_law_670 : decode cL_law 670 = .ok (.iload_n 3, 1) := by decide +kernel
theorem dL_law_671 : decode cL_law 671 = .ok (.iconst 1, 1) := by decide +kernel
theorem dL_law_672 : decode cL_law 672 = .ok (.iadd, 1) := by decide +kernel
theorem dL_law_673 : decode cL_law 673 = .ok (.iaload, 1) := by decide +kernel
theorem dL_law_674 : decode cL_law 674 = .ok (.aload_n 0, 1) := by decide +kernel
theorem dL_law_675 : decode cL_law 675 = .ok (.iload_n 3, 1) := by decide +kernel
theorem dL_law_676 : decode cL_law 676 = .ok (.iconst 2, 1) := by decide +kernel
theorem dL_law_677 : decode cL_law 677 = .ok (.iadd, 1) := by decide +kernel
theorem dL_law_678 : decode cL_law 678 = .ok (.iaload, 1) := by decide +kernel
theorem dL_law_679 : decode cL_law 679 = .ok (.invokevirtual 84, 3) := by decide +kernel
theorem dL_law_682 : decode cL_law 682 = .ok (.if_icmp .eq 784, 3) := by decide +kernel
theorem dL_law_685 : decode cL_law 685 = .ok (.iconst 0, 1) := by decide +kernel
theorem dL_law_686 : decode cL_law 686 = .ok (.ireturn, 1) := by decide +kernel
theorem dL_law_687 : decode cL_law 687 = .ok (.aload_n 1, 1) := by decide +kernel
theorem dL_law_688 : decode cL_law 688 = .ok (.invokevirtual 85, 3) := by decide +kernel
theorem dL_law_691 : decode cL_law 691 = .ok (.aload_n 2, 1) := by decide +kernel
theorem dL_law_692 : decode cL_law 692 = .ok (.invokevirtual 88, 3) := by decide +kernel
theorem dL_law_695 : decode cL_law 695 = .ok (.if_icmp .eq 771, 3) := by decide +kernel
theorem dL_law_698 : decode cL_law 698 = .ok (.iconst 0, 1) := by decide +kernel
theorem dL_law_699 : decode cL_law 699 = .ok (.ireturn, 1) := by decide +kernel
theorem dL_law_700 : decode cL_law 700 = .ok (.aload_n 1, 1) := by decide +kernel
theorem dL_law_701 : decode cL_law 701 = .ok (.aload_n 0, 1) := by decide +kernel
theorem dL_law_702 : decode cL_law 702 = .ok (.iload_n 3, 1) := by decide +kernel
theorem dL_law_703 : decode cL_law 703 = .ok (.iconst 1, 1) := by decide +kernel
theorem dL_law_704 : decode cL_law 704 = .ok (.iadd, 1) := by decide +kernel
theorem dL_law_705 : decode cL_law 705 = .ok (.iaload, 1) := by decide +kernel
theorem dL_law_706 : decode cL_law 706 = .ok (.aload_n 0, 1) := by decide +kernel
theorem dL_law_707 : decode cL_law 707 = .ok (.iload_n 3, 1) := by decide +kernel
theorem dL_law_708 : decode cL_law 708 = .ok (.iconst 2, 1) := by decide +kernel
theorem dL_law_709 : decode cL_law 709 = .ok (.iadd, 1) := by decide +kernel
theorem dL_law_710 : decode cL_law 710 = .ok (.iaload, 1) := by decide +kernel
theorem dL_law_711 : decode cL_law 711 = .ok (.invokevirtual 89, 3) := by decide +kernel
theorem dL_law_714 : decode cL_law 714 = .ok (.aload_n 2, 1) := by decide +kernel
theorem dL_law_715 : decode cL_law 715 = .ok (.aload_n 0, 1) := by decide +kernel
theorem dL_law_716 : decode cL_law 716 = .ok (.iload_n 3, 1) := by decide +kernel
theorem dL_law_717 : decode cL_law 717 = .ok (.iconst 1, 1) := by decide +kernel
theorem dL_law_718 : decode cL_law 718 = .ok (.iadd, 1) := by decide +kernel
theorem dL_law_719 : decode cL_law 719 = .ok (.iaload, 1) := by decide +kernel
theorem dL_law_720 : decode cL_law 720 = .ok (.aload_n 0, 1) := by decide +kernel
theorem dL_law_721 : decode cL_law 721 = .ok (.iload_n 3, 1) := by decide +kernel
theorem dL_law_722 : decode cL_law 722 = .ok (.iconst 2, 1) := by decide +kernel
theorem dL_law_723 : decode cL_law 723 = .ok (.iadd, 1) := by decide +kernel
theorem dL_law_724 : decode cL_law 724 = .ok (.iaload, 1) := by decide +kernel
theorem dL_law_725 : decode cL_law 725 = .ok (.invokevirtual 92, 3) := by decide +kernel
theorem dL_law_728 : decode cL_law 728 = .ok (.if_icmp .eq 738, 3) := by decide +kernel
theorem dL_law_731 : decode cL_law 731 = .ok (.iconst 0, 1) := by decide +kernel
theorem dL_law_732 : decode cL_law 732 = .ok (.ireturn, 1) := by decide +kernel
theorem dL_law_733 : decode cL_law 733 = .ok (.aload_n 1, 1) := by decide +kernel
theorem dL_law_734 : decode cL_law 734 = .ok (.aload_n 0, 1) := by decide +kernel
theorem dL_law_735 : decode cL_law 735 = .ok (.iload_n 3, 1) := by decide +kernel
theorem dL_law_736 : decode cL_law 736 = .ok (.iconst 1, 1) := by decide +kernel
theorem dL_law_737 : decode cL_law 737 = .ok (.iadd, 1) := by decide +kernel
theorem dL_law_738 : decode cL_law 738 = .ok (.iaload, 1) := by decide +kernel
theorem dL_law_739 : decode cL_law 739 = .ok (.invokevirtual 93, 3) := by decide +kernel
theorem dL_law_742 : decode cL_law 742 = .ok (.aload_n 2, 1) := by decide +kernel
theorem dL_law_743 : decode cL_law 743 = .ok (.aload_n 0, 1) := by decide +kernel
theorem dL_law_744 : decode cL_law 744 = .ok (.iload_n 3, 1) := by decide +kernel
theorem dL_law_745 : decode cL_law 745 = .ok (.iconst 1, 1) := by decide +kernel
theorem dL_law_746 : decode cL_law 746 = .ok (.iadd, 1) := by decide +kernel
theorem dL_law_747 : decode cL_law 747 = .ok (.iaload, 1) := by decide +kernel
theorem dL_law_748 : decode cL_law 748 = .ok (.invokevirtual 96, 3) := by decide +kernel
theorem dL_law_751 : decode cL_law 751 = .ok (.if_icmp .eq 715, 3) := by decide +kernel
theorem dL_law_754 : decode cL_law 754 = .ok (.iconst 0, 1) := by decide +kernel
theorem dL_law_755 : decode cL_law 755 = .ok (.ireturn, 1) := by decide +kernel
theorem dL_law_756 : decode cL_law 756 = .ok (.aload_n 1, 1) := by decide +kernel
theorem dL_law_757 : decode cL_law 757 = .ok (.aload_n 0, 1) := by decide +kernel
theorem dL_law_758 : decode cL_law 758 = .ok (.iload_n 3, 1) := by decide +kernel
theorem dL_law_759 : decode cL_law 759 = .ok (.iconst 1, 1) := by decide +kernel
theorem dL_law_760 : decode cL_law 760 = .ok (.iadd, 1) := by decide +kernel
theorem dL_law_761 : decode cL_law 761 = .ok (.iaload, 1) := by decide +kernel
theorem dL_law_762 : decode cL_law 762 = .ok (.aload_n 0, 1) := by decide +kernel
theorem dL_law_763 : decode cL_law 763 = .ok (.iload_n 3, 1) := by decide +kernel
theorem dL_law_764 : decode cL_law 764 = .ok (.iconst 2, 1) := by decide +kernel
theorem dL_law_765 : decode cL_law 765 = .ok (.iadd, 1) := by decide +kernel
theorem dL_law_766 : decode cL_law 766 = .ok (.iaload, 1) := by decide +kernel
theorem dL_law_767 : decode cL_law 767 = .ok (.aload_n 0, 1) := by decide +kernel
theorem dL_law_768 : decode cL_law 768 = .ok (.iload_n 3, 1) := by decide +kernel
theorem dL_law_769 : decode cL_law 769 = .ok (.iconst 3, 1) := by decide +kernel
theorem dL_law_770 : decode cL_law 770 = .ok (.iadd, 1) := by decide +kernel
theorem dL_law_771 : decode cL_law 771 = .ok (.iaload, 1) := by decide +kernel
theorem dL_law_772 : decode cL_law 772 = .ok (.invokevirtual 97, 3) := by decide +kernel
theorem dL_law_775 : decode cL_law 775 = .ok (.aload_n 2, 1) := by decide +kernel
theorem dL_law_776 : decode cL_law 776 = .ok (.aload_n 0, 1) := by decide +kernel
theorem dL_law_777 : decode cL_law 777 = .ok (.iload_n 3, 1) := by decide +kernel
theorem dL_law_778 : decode cL_law 778 = .ok (.iconst 1, 1) := by decide +kernel
theorem dL_law_779 : decode cL_law 779 = .ok (.iadd, 1) := by decide +kernel
theorem dL_law_780 : decode cL_law 780 = .ok (.iaload, 1) := by decide +kernel
theorem dL_law_781 : decode cL_law 781 = .ok (.aload_n 0, 1) := by decide +kernel
theorem dL_law_782 : decode cL_law 782 = .ok (.iload_n 3, 1) := by decide +kernel
theorem dL_law_783 : decode cL_law 783 = .ok (.iconst 2, 1) := by decide +kernel
theorem dL_law_784 : decode cL_law 784 = .ok (.iadd, 1) := by decide +kernel
theorem dL_law_785 : decode cL_law 785 = .ok (.iaload, 1) := by decide +kernel
theorem dL_law_786 : decode cL_law 786 = .ok (.aload_n 0, 1) := by decide +kernel
theorem dL_law_787 : decode cL_law 787 = .ok (.iload_n 3, 1) := by decide +kernel
theorem dL_law_788 : decode cL_law 788 = .ok (.iconst 3, 1) := by decide +kernel
theorem dL_law_789 : decode cL_law 789 = .ok (.iadd, 1) := by decide +kernel
theorem dL_law_790 : decode cL_law 790 = .ok (.iaload, 1) := by decide +kernel
theorem dL_law_791 : decode cL_law 791 = .ok (.invokevirtual 101, 3) := by decide +kernel
theorem dL_law_794 : decode cL_law 794 = .ok (.lcmp, 1) := by decide +kernel
theorem dL_law_795 : decode cL_law 795 = .ok (.ifCond .eq 671, 3) := by decide +kernel
theorem dL_law_798 : decode cL_law 798 = .ok (.iconst 0, 1) := by decide +kernel
theorem dL_law_799 : decode cL_law 799 = .ok (.ireturn, 1) := by decide +kernel
theorem dL_law_800 : decode cL_law 800 = .ok (.aload_n 1, 1) := by decide +kernel
theorem dL_law_801 : decode cL_law 801 = .ok (.aload_n 0, 1) := by decide +kernel
theorem dL_law_802 : decode cL_law 802 = .ok (.iload_n 3, 1) := by decide +kernel
theorem dL_law_803 : decode cL_law 803 = .ok (.iconst 1, 1) := by decide +kernel
theorem dL_law_804 : decode cL_law 804 = .ok (.iadd, 1) := by decide +kernel
theorem dL_law_805 : decode cL_law 805 = .ok (.iaload, 1) := by decide +kernel
theorem dL_law_806 : decode cL_law 806 = .ok (.invokevirtual 102, 3) := by decide +kernel
theorem dL_law_809 : decode cL_law 809 = .ok (.aload_n 2, 1) := by decide +kernel
theorem dL_law_810 : decode cL_law 810 = .ok (.aload_n 0, 1) := by decide +kernel
theorem dL_law_811 : decode cL_law 811 = .ok (.iload_n 3, 1) := by decide +kernel
theorem dL_law_812 : decode cL_law 812 = .ok (.iconst 1, 1) := by decide +kernel
theorem dL_law_813 : decode cL_law 813 = .ok (.iadd, 1) := by decide +kernel
theorem dL_law_814 : decode cL_law 814 = .ok (.iaload, 1) := by decide +kernel
theorem dL_law_815 : decode cL_law 815 = .ok (.invokevirtual 105, 3) := by decide +kernel
theorem dL_law_818 : decode cL_law 818 = .ok (.if_icmp .eq 648, 3) := by decide +kernel
theorem dL_law_821 : decode cL_law 821 = .ok (.iconst 0, 1) := by decide +kernel
theorem dL_law_822 : decode cL_law 822 = .ok (.ireturn, 1) := by decide +kernel
theorem dL_law_823 : decode cL_law 823 = .ok (.aload_n 1, 1) := by decide +kernel
theorem dL_law_824 : decode cL_law 824 = .ok (.aload_n 0, 1) := by decide +kernel
theorem dL_law_825 : decode cL_law 825 = .ok (.iload_n 3, 1) := by decide +kernel
theorem dL_law_826 : decode cL_law 826 = .ok (.iconst 1, 1) := by decide +kernel
theorem dL_law_827 : decode cL_law 827 = .ok (.iadd, 1) := by decide +kernel
theorem dL_law_828 : decode cL_law 828 = .ok (.iaload, 1) := by decide +kernel
theorem dL_law_829 : decode cL_law 829 = .ok (.aload_n 0, 1) := by decide +kernel
theorem dL_law_830 : decode cL_law 830 = .ok (.iload_n 3, 1) := by decide +kernel
theorem dL_law_831 : decode cL_law 831 = .ok (.iconst 2, 1) := by decide +kernel
theorem dL_law_832 : decode cL_law 832 = .ok (.iadd, 1) := by decide +kernel
theorem dL_law_833 : decode cL_law 833 = .ok (.iaload, 1) := by decide +kernel
theorem dL_law_834 : decode cL_law 834 = .ok (.invokevirtual 106, 3) := by decide +kernel
theorem dL_law_837 : decode cL_law 837 = .ok (.aload_n 2, 1) := by decide +kernel
theorem dL_law_838 : decode cL_law 838 = .ok (.aload_n 0, 1) := by decide +kernel
theorem dL_law_839 : decode cL_law 839 = .ok (.iload_n 3, 1) := by decide +kernel
theorem dL_law_840 : decode cL_law 840 = .ok (.iconst 1, 1) := by decide +kernel
theorem dL_law_841 : decode cL_law 841 = .ok (.iadd, 1) := by decide +kernel
theorem dL_law_842 : decode cL_law 842 = .ok (.iaload, 1) := by decide +kernel
theorem dL_law_843 : decode cL_law 843 = .ok (.aload_n 0, 1) := by decide +kernel
theorem dL_law_844 : decode cL_law 844 = .ok (.iload_n 3, 1) := by decide +kernel
theorem dL_law_845 : decode cL_law 845 = .ok (.iconst 2, 1) := by decide +kernel
theorem dL_law_846 : decode cL_law 846 = .ok (.iadd, 1) := by decide +kernel
theorem dL_law_847 : decode cL_law 847 = .ok (.iaload, 1) := by decide +kernel
theorem dL_law_848 : decode cL_law 848 = .ok (.invokevirtual 109, 3) := by decide +kernel
theorem dL_law_851 : decode cL_law 851 = .ok (.if_icmp .eq 615, 3) := by decide +kernel
theorem dL_law_854 : decode cL_law 854 = .ok (.iconst 0, 1) := by decide +kernel
theorem dL_law_855 : decode cL_law 855 = .ok (.ireturn, 1) := by decide +kernel
theorem dL_law_856 : decode cL_law 856 = .ok (.aload_n 1, 1) := by decide +kernel
theorem dL_law_857 : decode cL_law 857 = .ok (.aload_n 0, 1) := by decide +kernel
theorem dL_law_858 : decode cL_law 858 = .ok (.iload_n 3, 1) := by decide +kernel
theorem dL_law_859 : decode cL_law 859 = .ok (.iconst 1, 1) := by decide +kernel
theorem dL_law_860 : decode cL_law 860 = .ok (.iadd, 1) := by decide +kernel
theorem dL_law_861 : decode cL_law 861 = .ok (.iaload, 1) := by decide +kernel
theorem dL_law_862 : decode cL_law 862 = .ok (.aload_n 0, 1) := by decide +kernel
theorem dL_law_863 : decode cL_law 863 = .ok (.iload_n 3, 1) := by decide +kernel
theorem dL_law_864 : decode cL_law 864 = .ok (.iconst 2, 1) := by decide +kernel
theorem dL_law_865 : decode cL_law 865 = .ok (.iadd, 1) := by decide +kernel
theorem dL_law_866 : decode cL_law 866 = .ok (.iaload, 1) := by decide +kernel
theorem dL_law_867 : decode cL_law 867 = .ok (.invokevirtual 110, 3) := by decide +kernel
theorem dL_law_870 : decode cL_law 870 = .ok (.aload_n 2, 1) := by decide +kernel
theorem dL_law_871 : decode cL_law 871 = .ok (.aload_n 0, 1) := by decide +kernel
theorem dL_law_872 : decode cL_law 872 = .ok (.iload_n 3, 1) := by decide +kernel
theorem dL_law_873 : decode cL_law 873 = .ok (.iconst 1, 1) := by decide +kernel
theorem dL_law_874 : decode cL_law 874 = .ok (.iadd, 1) := by decide +kernel
theorem dL_law_875 : decode cL_law 875 = .ok (.iaload, 1) := by decide +kernel
theorem dL_law_876 : decode cL_law 876 = .ok (.aload_n 0, 1) := by decide +kernel
theorem dL_law_877 : decode cL_law 877 = .ok (.iload_n 3, 1) := by decide +kernel
theorem dL_law_878 : decode cL_law 878 = .ok (.iconst 2, 1) := by decide +kernel
theorem dL_law_879 : decode cL_law 879 = .ok (.iadd, 1) := by decide +kernel
theorem dL_law_880 : decode cL_law 880 = .ok (.iaload, 1) := by decide +kernel
theorem dL_law_881 : decode cL_law 881 = .ok (.invokevirtual 113, 3) := by decide +kernel
theorem dL_law_884 : decode cL_law 884 = .ok (.if_icmp .eq 582, 3) := by decide +kernel
theorem dL_law_887 : decode cL_law 887 = .ok (.iconst 0, 1) := by decide +kernel
theorem dL_law_888 : decode cL_law 888 = .ok (.ireturn, 1) := by decide +kernel
theorem dL_law_889 : decode cL_law 889 = .ok (.aload_n 1, 1) := by decide +kernel
theorem dL_law_890 : decode cL_law 890 = .ok (.invokevirtual 114, 3) := by decide +kernel
theorem dL_law_893 : decode cL_law 893 = .ok (.aload_n 2, 1) := by decide +kernel
theorem dL_law_894 : decode cL_law 894 = .ok (.invokevirtual 117, 3) := by decide +kernel
theorem dL_law_897 : decode cL_law 897 = .ok (.if_icmp .eq 569, 3) := by decide +kernel
theorem dL_law_900 : decode cL_law 900 = .ok (.iconst 0, 1) := by decide +kernel
theorem dL_law_901 : decode cL_law 901 = .ok (.ireturn, 1) := by decide +kernel
theorem dL_law_902 : decode cL_law 902 = .ok (.aload_n 1, 1) := by decide +kernel
theorem dL_law_903 : decode cL_law 903 = .ok (.aload_n 0, 1) := by decide +kernel
theorem dL_law_904 : decode cL_law 904 = .ok (.iload_n 3, 1) := by decide +kernel
theorem dL_law_905 : decode cL_law 905 = .ok (.iconst 1, 1) := by decide +kernel
theorem dL_law_906 : decode cL_law 906 = .ok (.iadd, 1) := by decide +kernel
theorem dL_law_907 : decode cL_law 907 = .ok (.iaload, 1) := by decide +kernel
theorem dL_law_908 : decode cL_law 908 = .ok (.aload_n 0, 1) := by decide +kernel
theorem dL_law_909 : decode cL_law 909 = .ok (.iload_n 3, 1) := by decide +kernel
theorem dL_law_910 : decode cL_law 910 = .ok (.iconst 2, 1) := by decide +kernel
theorem dL_law_911 : decode cL_law 911 = .ok (.iadd, 1) := by decide +kernel
theorem dL_law_912 : decode cL_law 912 = .ok (.iaload, 1) := by decide +kernel
theorem dL_law_913 : decode cL_law 913 = .ok (.invokevirtual 118, 3) := by decide +kernel
theorem dL_law_916 : decode cL_law 916 = .ok (.aload_n 2, 1) := by decide +kernel
theorem dL_law_917 : decode cL_law 917 = .ok (.aload_n 0, 1) := by decide +kernel
theorem dL_law_918 : decode cL_law 918 = .ok (.iload_n 3, 1) := by decide +kernel
theorem dL_law_919 : decode cL_law 919 = .ok (.iconst 1, 1) := by decide +kernel
theorem dL_law_920 : decode cL_law 920 = .ok (.iadd, 1) := by decide +kernel
theorem dL_law_921 : decode cL_law 921 = .ok (.iaload, 1) := by decide +kernel
theorem dL_law_922 : decode cL_law 922 = .ok (.aload_n 0, 1) := by decide +kernel
theorem dL_law_923 : decode cL_law 923 = .ok (.iload_n 3, 1) := by decide +kernel
theorem dL_law_924 : decode cL_law 924 = .ok (.iconst 2, 1) := by decide +kernel
theorem dL_law_925 : decode cL_law 925 = .ok (.iadd, 1) := by decide +kernel
theorem dL_law_926 : decode cL_law 926 = .ok (.iaload, 1) := by decide +kernel
theorem dL_law_927 : decode cL_law 927 = .ok (.invokevirtual 122, 3) := by decide +kernel
theorem dL_law_930 : decode cL_law 930 = .ok (.lcmp, 1) := by decide +kernel
theorem dL_law_931 : decode cL_law 931 = .ok (.ifCond .eq 535, 3) := by decide +kernel
theorem dL_law_934 : decode cL_law 934 = .ok (.iconst 0, 1) := by decide +kernel
theorem dL_law_935 : decode cL_law 935 = .ok (.ireturn, 1) := by decide +kernel
theorem dL_law_936 : decode cL_law 936 = .ok (.aload_n 1, 1) := by decide +kernel
theorem dL_law_937 : decode cL_law 937 = .ok (.aload_n 0, 1) := by decide +kernel
theorem dL_law_938 : decode cL_law 938 = .ok (.iload_n 3, 1) := by decide +kernel
theorem dL_law_939 : decode cL_law 939 = .ok (.iconst 1, 1) := by decide +kernel
theorem dL_law_940 : decode cL_law 940 = .ok (.iadd, 1) := by decide +kernel
theorem dL_law_941 : decode cL_law 941 = .ok (.iaload, 1) := by decide +kernel
theorem dL_law_942 : decode cL_law 942 = .ok (.aload_n 0, 1) := by decide +kernel
theorem dL_law_943 : decode cL_law 943 = .ok (.iload_n 3, 1) := by decide +kernel
theorem dL_law_944 : decode cL_law 944 = .ok (.iconst 2, 1) := by decide +kernel
theorem dL_law_945 : decode cL_law 945 = .ok (.iadd, 1) := by decide +kernel
theorem dL_law_946 : decode cL_law 946 = .ok (.iaload, 1) := by decide +kernel
theorem dL_law_947 : decode cL_law 947 = .ok (.invokevirtual 123, 3) := by decide +kernel
theorem dL_law_950 : decode cL_law 950 = .ok (.aload_n 2, 1) := by decide +kernel
theorem dL_law_951 : decode cL_law 951 = .ok (.aload_n 0, 1) := by decide +kernel
theorem dL_law_952 : decode cL_law 952 = .ok (.iload_n 3, 1) := by decide +kernel
theorem dL_law_953 : decode cL_law 953 = .ok (.iconst 1, 1) := by decide +kernel
theorem dL_law_954 : decode cL_law 954 = .ok (.iadd, 1) := by decide +kernel
theorem dL_law_955 : decode cL_law 955 = .ok (.iaload, 1) := by decide +kernel
theorem dL_law_956 : decode cL_law 956 = .ok (.aload_n 0, 1) := by decide +kernel
theorem dL_law_957 : decode cL_law 957 = .ok (.iload_n 3, 1) := by decide +kernel
theorem dL_law_958 : decode cL_law 958 = .ok (.iconst 2, 1) := by decide +kernel
theorem dL_law_959 : decode cL_law 959 = .ok (.iadd, 1) := by decide +kernel
theorem dL_law_960 : decode cL_law 960 = .ok (.iaload, 1) := by decide +kernel
theorem dL_law_961 : decode cL_law 961 = .ok (.invokevirtual 126, 3) := by decide +kernel
theorem dL_law_964 : decode cL_law 964 = .ok (.lcmp, 1) := by decide +kernel
theorem dL_law_965 : decode cL_law 965 = .ok (.ifCond .eq 501, 3) := by decide +kernel
theorem dL_law_968 : decode cL_law 968 = .ok (.iconst 0, 1) := by decide +kernel
theorem dL_law_969 : decode cL_law 969 = .ok (.ireturn, 1) := by decide +kernel
theorem dL_law_970 : decode cL_law 970 = .ok (.aload_n 1, 1) := by decide +kernel
theorem dL_law_971 : decode cL_law 971 = .ok (.aload_n 0, 1) := by decide +kernel
theorem dL_law_972 : decode cL_law 972 = .ok (.iload_n 3, 1) := by decide +kernel
theorem dL_law_973 : decode cL_law 973 = .ok (.iconst 1, 1) := by decide +kernel
theorem dL_law_974 : decode cL_law 974 = .ok (.iadd, 1) := by decide +kernel
theorem dL_law_975 : decode cL_law 975 = .ok (.iaload, 1) := by decide +kernel
theorem dL_law_976 : decode cL_law 976 = .ok (.aload_n 0, 1) := by decide +kernel
theorem dL_law_977 : decode cL_law 977 = .ok (.iload_n 3, 1) := by decide +kernel
theorem dL_law_978 : decode cL_law 978 = .ok (.iconst 2, 1) := by decide +kernel
theorem dL_law_979 : decode cL_law 979 = .ok (.iadd, 1) := by decide +kernel
theorem dL_law_980 : decode cL_law 980 = .ok (.iaload, 1) := by decide +kernel
theorem dL_law_981 : decode cL_law 981 = .ok (.invokevirtual 127, 3) := by decide +kernel
theorem dL_law_984 : decode cL_law 984 = .ok (.aload_n 2, 1) := by decide +kernel
theorem dL_law_985 : decode cL_law 985 = .ok (.aload_n 0, 1) := by decide +kernel
theorem dL_law_986 : decode cL_law 986 = .ok (.iload_n 3, 1) := by decide +kernel
theorem dL_law_987 : decode cL_law 987 = .ok (.iconst 1, 1) := by decide +kernel
theorem dL_law_988 : decode cL_law 988 = .ok (.iadd, 1) := by decide +kernel
theorem dL_law_989 : decode cL_law 989 = .ok (.iaload, 1) := by decide +kernel
theorem dL_law_990 : decode cL_law 990 = .ok (.aload_n 0, 1) := by decide +kernel
theorem dL_law_991 : decode cL_law 991 = .ok (.iload_n 3, 1) := by decide +kernel
theorem dL_law_992 : decode cL_law 992 = .ok (.iconst 2, 1) := by decide +kernel
theorem dL_law_993 : decode cL_law 993 = .ok (.iadd, 1) := by decide +kernel
theorem dL_law_994 : decode cL_law 994 = .ok (.iaload, 1) := by decide +kernel
theorem dL_law_995 : decode cL_law 995 = .ok (.invokevirtual 130, 3) := by decide +kernel
theorem dL_law_998 : decode cL_law 998 = .ok (.if_icmp .eq 468, 3) := by decide +kernel
theorem dL_law_1001 : decode cL_law 1001 = .ok (.iconst 0, 1) := by decide +kernel
theorem dL_law_1002 : decode cL_law 1002 = .ok (.ireturn, 1) := by decide +kernel
theorem dL_law_1003 : decode cL_law 1003 = .ok (.aload_n 1, 1) := by decide +kernel
theorem dL_law_1004 : decode cL_law 1004 = .ok (.aload_n 0, 1) := by decide +kernel
theorem dL_law_1005 : decode cL_law 1005 = .ok (.iload_n 3, 1) := by decide +kernel
theorem dL_law_1006 : decode cL_law 1006 = .ok (.iconst 1, 1) := by decide +kernel
theorem dL_law_1007 : decode cL_law 1007 = .ok (.iadd, 1) := by decide +kernel
theorem dL_law_1008 : decode cL_law 1008 = .ok (.iaload, 1) := by decide +kernel
theorem dL_law_1009 : decode cL_law 1009 = .ok (.invokevirtual 131, 3) := by decide +kernel
theorem dL_law_1012 : decode cL_law 1012 = .ok (.aload_n 2, 1) := by decide +kernel
theorem dL_law_1013 : decode cL_law 1013 = .ok (.aload_n 0, 1) := by decide +kernel
theorem dL_law_1014 : decode cL_law 1014 = .ok (.iload_n 3, 1) := by decide +kernel
theorem dL_law_1015 : decode cL_law 1015 = .ok (.iconst 1, 1) := by decide +kernel
theorem dL_law_1016 : decode cL_law 1016 = .ok (.iadd, 1) := by decide +kernel
theorem dL_law_1017 : decode cL_law 1017 = .ok (.iaload, 1) := by decide +kernel
theorem dL_law_1018 : decode cL_law 1018 = .ok (.invokevirtual 134, 3) := by decide +kernel
theorem dL_law_1021 : decode cL_law 1021 = .ok (.if_icmp .eq 445, 3) := by decide +kernel
theorem dL_law_1024 : decode cL_law 1024 = .ok (.iconst 0, 1) := by decide +kernel
theorem dL_law_1025 : decode cL_law 1025 = .ok (.ireturn, 1) := by decide +kernel
theorem dL_law_1026 : decode cL_law 1026 = .ok (.aload_n 1, 1) := by decide +kernel
theorem dL_law_1027 : decode cL_law 1027 = .ok (.aload_n 0, 1) := by decide +kernel
theorem dL_law_1028 : decode cL_law 1028 = .ok (.iload_n 3, 1) := by decide +kernel
theorem dL_law_1029 : decode cL_law 1029 = .ok (.iconst 1, 1) := by decide +kernel
theorem dL_law_1030 : decode cL_law 1030 = .ok (.iadd, 1) := by decide +kernel
theorem dL_law_1031 : decode cL_law 1031 = .ok (.iaload, 1) := by decide +kernel
theorem dL_law_1032 : decode cL_law 1032 = .ok (.aload_n 0, 1) := by decide +kernel
theorem dL_law_1033 : decode cL_law 1033 = .ok (.iload_n 3, 1) := by decide +kernel
theorem dL_law_1034 : decode cL_law 1034 = .ok (.iconst 2, 1) := by decide +kernel
theorem dL_law_1035 : decode cL_law 1035 = .ok (.iadd, 1) := by decide +kernel
theorem dL_law_1036 : decode cL_law 1036 = .ok (.iaload, 1) := by decide +kernel
theorem dL_law_1037 : decode cL_law 1037 = .ok (.invokevirtual 135, 3) := by decide +kernel
theorem dL_law_1040 : decode cL_law 1040 = .ok (.aload_n 2, 1) := by decide +kernel
theorem dL_law_1041 : decode cL_law 1041 = .ok (.aload_n 0, 1) := by decide +kernel
theorem dL_law_1042 : decode cL_law 1042 = .ok (.iload_n 3, 1) := by decide +kernel
theorem dL_law_1043 : decode cL_law 1043 = .ok (.iconst 1, 1) := by decide +kernel
theorem dL_law_1044 : decode cL_law 1044 = .ok (.iadd, 1) := by decide +kernel
theorem dL_law_1045 : decode cL_law 1045 = .ok (.iaload, 1) := by decide +kernel
theorem dL_law_1046 : decode cL_law 1046 = .ok (.aload_n 0, 1) := by decide +kernel
theorem dL_law_1047 : decode cL_law 1047 = .ok (.iload_n 3, 1) := by decide +kernel
theorem dL_law_1048 : decode cL_law 1048 = .ok (.iconst 2, 1) := by decide +kernel
theorem dL_law_1049 : decode cL_law 1049 = .ok (.iadd, 1) := by decide +kernel
theorem dL_law_1050 : decode cL_law 1050 = .ok (.iaload, 1) := by decide +kernel
theorem dL_law_1051 : decode cL_law 1051 = .ok (.invokevirtual 138, 3) := by decide +kernel
theorem dL_law_1054 : decode cL_law 1054 = .ok (.if_icmp .eq 412, 3) := by decide +kernel
theorem dL_law_1057 : decode cL_law 1057 = .ok (.iconst 0, 1) := by decide +kernel
theorem dL_law_1058 : decode cL_law 1058 = .ok (.ireturn, 1) := by decide +kernel
theorem dL_law_1059 : decode cL_law 1059 = .ok (.aload_n 1, 1) := by decide +kernel
theorem dL_law_1060 : decode cL_law 1060 = .ok (.invokevirtual 139, 3) := by decide +kernel
theorem dL_law_1063 : decode cL_law 1063 = .ok (.aload_n 2, 1) := by decide +kernel
theorem dL_law_1064 : decode cL_law 1064 = .ok (.invokevirtual 142, 3) := by decide +kernel
theorem dL_law_1067 : decode cL_law 1067 = .ok (.if_icmp .eq 399, 3) := by decide +kernel
theorem dL_law_1070 : decode cL_law 1070 = .ok (.iconst 0, 1) := by decide +kernel
theorem dL_law_1071 : decode cL_law 1071 = .ok (.ireturn, 1) := by decide +kernel
theorem dL_law_1072 : decode cL_law 1072 = .ok (.aload_n 1, 1) := by decide +kernel
theorem dL_law_1073 : decode cL_law 1073 = .ok (.aload_n 0, 1) := by decide +kernel
theorem dL_law_1074 : decode cL_law 1074 = .ok (.iload_n 3, 1) := by decide +kernel
theorem dL_law_1075 : decode cL_law 1075 = .ok (.iconst 1, 1) := by decide +kernel
theorem dL_law_1076 : decode cL_law 1076 = .ok (.iadd, 1) := by decide +kernel
theorem dL_law_1077 : decode cL_law 1077 = .ok (.iaload, 1) := by decide +kernel
theorem dL_law_1078 : decode cL_law 1078 = .ok (.aload_n 0, 1) := by decide +kernel
theorem dL_law_1079 : decode cL_law 1079 = .ok (.iload_n 3, 1) := by decide +kernel
theorem dL_law_1080 : decode cL_law 1080 = .ok (.iconst 2, 1) := by decide +kernel
theorem dL_law_1081 : decode cL_law 1081 = .ok (.iadd, 1) := by decide +kernel
theorem dL_law_1082 : decode cL_law 1082 = .ok (.iaload, 1) := by decide +kernel
theorem dL_law_1083 : decode cL_law 1083 = .ok (.invokevirtual 143, 3) := by decide +kernel
theorem dL_law_1086 : decode cL_law 1086 = .ok (.aload_n 2, 1) := by decide +kernel
theorem dL_law_1087 : decode cL_law 1087 = .ok (.aload_n 0, 1) := by decide +kernel
theorem dL_law_1088 : decode cL_law 1088 = .ok (.iload_n 3, 1) := by decide +kernel
theorem dL_law_1089 : decode cL_law 1089 = .ok (.iconst 1, 1) := by decide +kernel
theorem dL_law_1090 : decode cL_law 1090 = .ok (.iadd, 1) := by decide +kernel
theorem dL_law_1091 : decode cL_law 1091 = .ok (.iaload, 1) := by decide +kernel
theorem dL_law_1092 : decode cL_law 1092 = .ok (.aload_n 0, 1) := by decide +kernel
theorem dL_law_1093 : decode cL_law 1093 = .ok (.iload_n 3, 1) := by decide +kernel
theorem dL_law_1094 : decode cL_law 1094 = .ok (.iconst 2, 1) := by decide +kernel
theorem dL_law_1095 : decode cL_law 1095 = .ok (.iadd, 1) := by decide +kernel
theorem dL_law_1096 : decode cL_law 1096 = .ok (.iaload, 1) := by decide +kernel
theorem dL_law_1097 : decode cL_law 1097 = .ok (.invokevirtual 146, 3) := by decide +kernel
theorem dL_law_1100 : decode cL_law 1100 = .ok (.if_icmp .eq 366, 3) := by decide +kernel
theorem dL_law_1103 : decode cL_law 1103 = .ok (.iconst 0, 1) := by decide +kernel
theorem dL_law_1104 : decode cL_law 1104 = .ok (.ireturn, 1) := by decide +kernel
theorem dL_law_1105 : decode cL_law 1105 = .ok (.aload_n 1, 1) := by decide +kernel
theorem dL_law_1106 : decode cL_law 1106 = .ok (.invokevirtual 147, 3) := by decide +kernel
theorem dL_law_1109 : decode cL_law 1109 = .ok (.aload_n 2, 1) := by decide +kernel
theorem dL_law_1110 : decode cL_law 1110 = .ok (.invokevirtual 150, 3) := by decide +kernel
theorem dL_law_1113 : decode cL_law 1113 = .ok (.if_icmp .eq 353, 3) := by decide +kernel
theorem dL_law_1116 : decode cL_law 1116 = .ok (.iconst 0, 1) := by decide +kernel
theorem dL_law_1117 : decode cL_law 1117 = .ok (.ireturn, 1) := by decide +kernel
theorem dL_law_1118 : decode cL_law 1118 = .ok (.aload_n 1, 1) := by decide +kernel
theorem dL_law_1119 : decode cL_law 1119 = .ok (.invokevirtual 151, 3) := by decide +kernel
theorem dL_law_1122 : decode cL_law 1122 = .ok (.aload_n 2, 1) := by decide +kernel
theorem dL_law_1123 : decode cL_law 1123 = .ok (.invokevirtual 154, 3) := by decide +kernel
theorem dL_law_1126 : decode cL_law 1126 = .ok (.if_icmp .eq 340, 3) := by decide +kernel
theorem dL_law_1129 : decode cL_law 1129 = .ok (.iconst 0, 1) := by decide +kernel
theorem dL_law_1130 : decode cL_law 1130 = .ok (.ireturn, 1) := by decide +kernel
theorem dL_law_1131 : decode cL_law 1131 = .ok (.aload_n 1, 1) := by decide +kernel
theorem dL_law_1132 : decode cL_law 1132 = .ok (.aload_n 0, 1) := by decide +kernel
theorem dL_law_1133 : decode cL_law 1133 = .ok (.iload_n 3, 1) := by decide +kernel
theorem dL_law_1134 : decode cL_law 1134 = .ok (.iconst 1, 1) := by decide +kernel
theorem dL_law_1135 : decode cL_law 1135 = .ok (.iadd, 1) := by decide +kernel
theorem dL_law_1136 : decode cL_law 1136 = .ok (.iaload, 1) := by decide +kernel
theorem dL_law_1137 : decode cL_law 1137 = .ok (.aload_n 0, 1) := by decide +kernel
theorem dL_law_1138 : decode cL_law 1138 = .ok (.iload_n 3, 1) := by decide +kernel
theorem dL_law_1139 : decode cL_law 1139 = .ok (.iconst 2, 1) := by decide +kernel
theorem dL_law_1140 : decode cL_law 1140 = .ok (.iadd, 1) := by decide +kernel
theorem dL_law_1141 : decode cL_law 1141 = .ok (.iaload, 1) := by decide +kernel
theorem dL_law_1142 : decode cL_law 1142 = .ok (.aload_n 0, 1) := by decide +kernel
theorem dL_law_1143 : decode cL_law 1143 = .ok (.iload_n 3, 1) := by decide +kernel
theorem dL_law_1144 : decode cL_law 1144 = .ok (.iconst 3, 1) := by decide +kernel
theorem dL_law_1145 : decode cL_law 1145 = .ok (.iadd, 1) := by decide +kernel
theorem dL_law_1146 : decode cL_law 1146 = .ok (.iaload, 1) := by decide +kernel
theorem dL_law_1147 : decode cL_law 1147 = .ok (.invokevirtual 155, 3) := by decide +kernel
theorem dL_law_1150 : decode cL_law 1150 = .ok (.aload_n 2, 1) := by decide +kernel
theorem dL_law_1151 : decode cL_law 1151 = .ok (.aload_n 0, 1) := by decide +kernel
theorem dL_law_1152 : decode cL_law 1152 = .ok (.iload_n 3, 1) := by decide +kernel
theorem dL_law_1153 : decode cL_law 1153 = .ok (.iconst 1, 1) := by decide +kernel
theorem dL_law_1154 : decode cL_law 1154 = .ok (.iadd, 1) := by decide +kernel
theorem dL_law_1155 : decode cL_law 1155 = .ok (.iaload, 1) := by decide +kernel
theorem dL_law_1156 : decode cL_law 1156 = .ok (.aload_n 0, 1) := by decide +kernel
theorem dL_law_1157 : decode cL_law 1157 = .ok (.iload_n 3, 1) := by decide +kernel
theorem dL_law_1158 : decode cL_law 1158 = .ok (.iconst 2, 1) := by decide +kernel
theorem dL_law_1159 : decode cL_law 1159 = .ok (.iadd, 1) := by decide +kernel
theorem dL_law_1160 : decode cL_law 1160 = .ok (.iaload, 1) := by decide +kernel
theorem dL_law_1161 : decode cL_law 1161 = .ok (.aload_n 0, 1) := by decide +kernel
theorem dL_law_1162 : decode cL_law 1162 = .ok (.iload_n 3, 1) := by decide +kernel
theorem dL_law_1163 : decode cL_law 1163 = .ok (.iconst 3, 1) := by decide +kernel
theorem dL_law_1164 : decode cL_law 1164 = .ok (.iadd, 1) := by decide +kernel
theorem dL_law_1165 : decode cL_law 1165 = .ok (.iaload, 1) := by decide +kernel
theorem dL_law_1166 : decode cL_law 1166 = .ok (.invokevirtual 158, 3) := by decide +kernel
theorem dL_law_1169 : decode cL_law 1169 = .ok (.if_icmp .eq 297, 3) := by decide +kernel
theorem dL_law_1172 : decode cL_law 1172 = .ok (.iconst 0, 1) := by decide +kernel
theorem dL_law_1173 : decode cL_law 1173 = .ok (.ireturn, 1) := by decide +kernel
theorem dL_law_1174 : decode cL_law 1174 = .ok (.aload_n 1, 1) := by decide +kernel
theorem dL_law_1175 : decode cL_law 1175 = .ok (.aload_n 0, 1) := by decide +kernel
theorem dL_law_1176 : decode cL_law 1176 = .ok (.iload_n 3, 1) := by decide +kernel
theorem dL_law_1177 : decode cL_law 1177 = .ok (.iconst 1, 1) := by decide +kernel
theorem dL_law_1178 : decode cL_law 1178 = .ok (.iadd, 1) := by decide +kernel
theorem dL_law_1179 : decode cL_law 1179 = .ok (.iaload, 1) := by decide +kernel
theorem dL_law_1180 : decode cL_law 1180 = .ok (.invokevirtual 159, 3) := by decide +kernel
theorem dL_law_1183 : decode cL_law 1183 = .ok (.aload_n 2, 1) := by decide +kernel
theorem dL_law_1184 : decode cL_law 1184 = .ok (.aload_n 0, 1) := by decide +kernel
theorem dL_law_1185 : decode cL_law 1185 = .ok (.iload_n 3, 1) := by decide +kernel
theorem dL_law_1186 : decode cL_law 1186 = .ok (.iconst 1, 1) := by decide +kernel
theorem dL_law_1187 : decode cL_law 1187 = .ok (.iadd, 1) := by decide +kernel
theorem dL_law_1188 : decode cL_law 1188 = .ok (.iaload, 1) := by decide +kernel
theorem dL_law_1189 : decode cL_law 1189 = .ok (.invokevirtual 162, 3) := by decide +kernel
theorem dL_law_1192 : decode cL_law 1192 = .ok (.if_icmp .eq 274, 3) := by decide +kernel
theorem dL_law_1195 : decode cL_law 1195 = .ok (.iconst 0, 1) := by decide +kernel
theorem dL_law_1196 : decode cL_law 1196 = .ok (.ireturn, 1) := by decide +kernel
theorem dL_law_1197 : decode cL_law 1197 = .ok (.aload_n 1, 1) := by decide +kernel
theorem dL_law_1198 : decode cL_law 1198 = .ok (.aload_n 0, 1) := by decide +kernel
theorem dL_law_1199 : decode cL_law 1199 = .ok (.iload_n 3, 1) := by decide +kernel
theorem dL_law_1200 : decode cL_law 1200 = .ok (.iconst 1, 1) := by decide +kernel
theorem dL_law_1201 : decode cL_law 1201 = .ok (.iadd, 1) := by decide +kernel
theorem dL_law_1202 : decode cL_law 1202 = .ok (.iaload, 1) := by decide +kernel
theorem dL_law_1203 : decode cL_law 1203 = .ok (.aload_n 0, 1) := by decide +kernel
theorem dL_law_1204 : decode cL_law 1204 = .ok (.iload_n 3, 1) := by decide +kernel
theorem dL_law_1205 : decode cL_law 1205 = .ok (.iconst 2, 1) := by decide +kernel
theorem dL_law_1206 : decode cL_law 1206 = .ok (.iadd, 1) := by decide +kernel
theorem dL_law_1207 : decode cL_law 1207 = .ok (.iaload, 1) := by decide +kernel
theorem dL_law_1208 : decode cL_law 1208 = .ok (.invokevirtual 163, 3) := by decide +kernel
theorem dL_law_1211 : decode cL_law 1211 = .ok (.aload_n 2, 1) := by decide +kernel
theorem dL_law_1212 : decode cL_law 1212 = .ok (.aload_n 0, 1) := by decide +kernel
theorem dL_law_1213 : decode cL_law 1213 = .ok (.iload_n 3, 1) := by decide +kernel
theorem dL_law_1214 : decode cL_law 1214 = .ok (.iconst 1, 1) := by decide +kernel
theorem dL_law_1215 : decode cL_law 1215 = .ok (.iadd, 1) := by decide +kernel
theorem dL_law_1216 : decode cL_law 1216 = .ok (.iaload, 1) := by decide +kernel
theorem dL_law_1217 : decode cL_law 1217 = .ok (.aload_n 0, 1) := by decide +kernel
theorem dL_law_1218 : decode cL_law 1218 = .ok (.iload_n 3, 1) := by decide +kernel
theorem dL_law_1219 : decode cL_law 1219 = .ok (.iconst 2, 1) := by decide +kernel
theorem dL_law_1220 : decode cL_law 1220 = .ok (.iadd, 1) := by decide +kernel
theorem dL_law_1221 : decode cL_law 1221 = .ok (.iaload, 1) := by decide +kernel
theorem dL_law_1222 : decode cL_law 1222 = .ok (.invokevirtual 166, 3) := by decide +kernel
theorem dL_law_1225 : decode cL_law 1225 = .ok (.if_icmp .eq 241, 3) := by decide +kernel
theorem dL_law_1228 : decode cL_law 1228 = .ok (.iconst 0, 1) := by decide +kernel
theorem dL_law_1229 : decode cL_law 1229 = .ok (.ireturn, 1) := by decide +kernel
theorem dL_law_1230 : decode cL_law 1230 = .ok (.aload_n 1, 1) := by decide +kernel
theorem dL_law_1231 : decode cL_law 1231 = .ok (.aload_n 0, 1) := by decide +kernel
theorem dL_law_1232 : decode cL_law 1232 = .ok (.iload_n 3, 1) := by decide +kernel
theorem dL_law_1233 : decode cL_law 1233 = .ok (.iconst 1, 1) := by decide +kernel
theorem dL_law_1234 : decode cL_law 1234 = .ok (.iadd, 1) := by decide +kernel
theorem dL_law_1235 : decode cL_law 1235 = .ok (.iaload, 1) := by decide +kernel
theorem dL_law_1236 : decode cL_law 1236 = .ok (.invokevirtual 167, 3) := by decide +kernel
theorem dL_law_1239 : decode cL_law 1239 = .ok (.aload_n 2, 1) := by decide +kernel
theorem dL_law_1240 : decode cL_law 1240 = .ok (.aload_n 0, 1) := by decide +kernel
theorem dL_law_1241 : decode cL_law 1241 = .ok (.iload_n 3, 1) := by decide +kernel
theorem dL_law_1242 : decode cL_law 1242 = .ok (.iconst 1, 1) := by decide +kernel
theorem dL_law_1243 : decode cL_law 1243 = .ok (.iadd, 1) := by decide +kernel
theorem dL_law_1244 : decode cL_law 1244 = .ok (.iaload, 1) := by decide +kernel
theorem dL_law_1245 : decode cL_law 1245 = .ok (.invokevirtual 170, 3) := by decide +kernel
theorem dL_law_1248 : decode cL_law 1248 = .ok (.if_icmp .eq 218, 3) := by decide +kernel
theorem dL_law_1251 : decode cL_law 1251 = .ok (.iconst 0, 1) := by decide +kernel
theorem dL_law_1252 : decode cL_law 1252 = .ok (.ireturn, 1) := by decide +kernel
theorem dL_law_1253 : decode cL_law 1253 = .ok (.aload_n 1, 1) := by decide +kernel
theorem dL_law_1254 : decode cL_law 1254 = .ok (.aload_n 0, 1) := by decide +kernel
theorem dL_law_1255 : decode cL_law 1255 = .ok (.iload_n 3, 1) := by decide +kernel
theorem dL_law_1256 : decode cL_law 1256 = .ok (.iconst 1, 1) := by decide +kernel
theorem dL_law_1257 : decode cL_law 1257 = .ok (.iadd, 1) := by decide +kernel
theorem dL_law_1258 : decode cL_law 1258 = .ok (.iaload, 1) := by decide +kernel
theorem dL_law_1259 : decode cL_law 1259 = .ok (.aload_n 0, 1) := by decide +kernel
theorem dL_law_1260 : decode cL_law 1260 = .ok (.iload_n 3, 1) := by decide +kernel
theorem dL_law_1261 : decode cL_law 1261 = .ok (.iconst 2, 1) := by decide +kernel
theorem dL_law_1262 : decode cL_law 1262 = .ok (.iadd, 1) := by decide +kernel
theorem dL_law_1263 : decode cL_law 1263 = .ok (.iaload, 1) := by decide +kernel
theorem dL_law_1264 : decode cL_law 1264 = .ok (.aload_n 0, 1) := by decide +kernel
theorem dL_law_1265 : decode cL_law 1265 = .ok (.iload_n 3, 1) := by decide +kernel
theorem dL_law_1266 : decode cL_law 1266 = .ok (.iconst 3, 1) := by decide +kernel
theorem dL_law_1267 : decode cL_law 1267 = .ok (.iadd, 1) := by decide +kernel
theorem dL_law_1268 : decode cL_law 1268 = .ok (.iaload, 1) := by decide +kernel
theorem dL_law_1269 : decode cL_law 1269 = .ok (.invokevirtual 171, 3) := by decide +kernel
theorem dL_law_1272 : decode cL_law 1272 = .ok (.aload_n 2, 1) := by decide +kernel
theorem dL_law_1273 : decode cL_law 1273 = .ok (.aload_n 0, 1) := by decide +kernel
theorem dL_law_1274 : decode cL_law 1274 = .ok (.iload_n 3, 1) := by decide +kernel
theorem dL_law_1275 : decode cL_law 1275 = .ok (.iconst 1, 1) := by decide +kernel
theorem dL_law_1276 : decode cL_law 1276 = .ok (.iadd, 1) := by decide +kernel
theorem dL_law_1277 : decode cL_law 1277 = .ok (.iaload, 1) := by decide +kernel
theorem dL_law_1278 : decode cL_law 1278 = .ok (.aload_n 0, 1) := by decide +kernel
theorem dL_law_1279 : decode cL_law 1279 = .ok (.iload_n 3, 1) := by decide +kernel
theorem dL_law_1280 : decode cL_law 1280 = .ok (.iconst 2, 1) := by decide +kernel
theorem dL_law_1281 : decode cL_law 1281 = .ok (.iadd, 1) := by decide +kernel
theorem dL_law_1282 : decode cL_law 1282 = .ok (.iaload, 1) := by decide +kernel
theorem dL_law_1283 : decode cL_law 1283 = .ok (.aload_n 0, 1) := by decide +kernel
theorem dL_law_1284 : decode cL_law 1284 = .ok (.iload_n 3, 1) := by decide +kernel
theorem dL_law_1285 : decode cL_law 1285 = .ok (.iconst 3, 1) := by decide +kernel
theorem dL_law_1286 : decode cL_law 1286 = .ok (.iadd, 1) := by decide +kernel
theorem dL_law_1287 : decode cL_law 1287 = .ok (.iaload, 1) := by decide +kernel
theorem dL_law_1288 : decode cL_law 1288 = .ok (.invokevirtual 174, 3) := by decide +kernel
theorem dL_law_1291 : decode cL_law 1291 = .ok (.if_icmp .eq 175, 3) := by decide +kernel
theorem dL_law_1294 : decode cL_law 1294 = .ok (.iconst 0, 1) := by decide +kernel
theorem dL_law_1295 : decode cL_law 1295 = .ok (.ireturn, 1) := by decide +kernel
theorem dL_law_1296 : decode cL_law 1296 = .ok (.aload_n 1, 1) := by decide +kernel
theorem dL_law_1297 : decode cL_law 1297 = .ok (.aload_n 0, 1) := by decide +kernel
theorem dL_law_1298 : decode cL_law 1298 = .ok (.iload_n 3, 1) := by decide +kernel
theorem dL_law_1299 : decode cL_law 1299 = .ok (.iconst 1, 1) := by decide +kernel
theorem dL_law_1300 : decode cL_law 1300 = .ok (.iadd, 1) := by decide +kernel
theorem dL_law_1301 : decode cL_law 1301 = .ok (.iaload, 1) := by decide +kernel
theorem dL_law_1302 : decode cL_law 1302 = .ok (.aload_n 0, 1) := by decide +kernel
theorem dL_law_1303 : decode cL_law 1303 = .ok (.iload_n 3, 1) := by decide +kernel
theorem dL_law_1304 : decode cL_law 1304 = .ok (.iconst 2, 1) := by decide +kernel
theorem dL_law_1305 : decode cL_law 1305 = .ok (.iadd, 1) := by decide +kernel
theorem dL_law_1306 : decode cL_law 1306 = .ok (.iaload, 1) := by decide +kernel
theorem dL_law_1307 : decode cL_law 1307 = .ok (.aload_n 0, 1) := by decide +kernel
theorem dL_law_1308 : decode cL_law 1308 = .ok (.iload_n 3, 1) := by decide +kernel
theorem dL_law_1309 : decode cL_law 1309 = .ok (.iconst 3, 1) := by decide +kernel
theorem dL_law_1310 : decode cL_law 1310 = .ok (.iadd, 1) := by decide +kernel
theorem dL_law_1311 : decode cL_law 1311 = .ok (.iaload, 1) := by decide +kernel
theorem dL_law_1312 : decode cL_law 1312 = .ok (.i2l, 1) := by decide +kernel
theorem dL_law_1313 : decode cL_law 1313 = .ok (.bipush 32, 2) := by decide +kernel
theorem dL_law_1315 : decode cL_law 1315 = .ok (.lshl, 1) := by decide +kernel
theorem dL_law_1316 : decode cL_law 1316 = .ok (.aload_n 0, 1) := by decide +kernel
theorem dL_law_1317 : decode cL_law 1317 = .ok (.iload_n 3, 1) := by decide +kernel
theorem dL_law_1318 : decode cL_law 1318 = .ok (.iconst 4, 1) := by decide +kernel
theorem dL_law_1319 : decode cL_law 1319 = .ok (.iadd, 1) := by decide +kernel
theorem dL_law_1320 : decode cL_law 1320 = .ok (.iaload, 1) := by decide +kernel
theorem dL_law_1321 : decode cL_law 1321 = .ok (.i2l, 1) := by decide +kernel
theorem dL_law_1322 : decode cL_law 1322 = .ok (.ldc2_w 175, 3) := by decide +kernel
theorem dL_law_1325 : decode cL_law 1325 = .ok (.land, 1) := by decide +kernel
theorem dL_law_1326 : decode cL_law 1326 = .ok (.lor, 1) := by decide +kernel
theorem dL_law_1327 : decode cL_law 1327 = .ok (.invokevirtual 177, 3) := by decide +kernel
theorem dL_law_1330 : decode cL_law 1330 = .ok (.aload_n 2, 1) := by decide +kernel
theorem dL_law_1331 : decode cL_law 1331 = .ok (.aload_n 0, 1) := by decide +kernel
theorem dL_law_1332 : decode cL_law 1332 = .ok (.iload_n 3, 1) := by decide +kernel
theorem dL_law_1333 : decode cL_law 1333 = .ok (.iconst 1, 1) := by decide +kernel
theorem dL_law_1334 : decode cL_law 1334 = .ok (.iadd, 1) := by decide +kernel
theorem dL_law_1335 : decode cL_law 1335 = .ok (.iaload, 1) := by decide +kernel
theorem dL_law_1336 : decode cL_law 1336 = .ok (.aload_n 0, 1) := by decide +kernel
theorem dL_law_1337 : decode cL_law 1337 = .ok (.iload_n 3, 1) := by decide +kernel
theorem dL_law_1338 : decode cL_law 1338 = .ok (.iconst 2, 1) := by decide +kernel
theorem dL_law_1339 : decode cL_law 1339 = .ok (.iadd, 1) := by decide +kernel
theorem dL_law_1340 : decode cL_law 1340 = .ok (.iaload, 1) := by decide +kernel
theorem dL_law_1341 : decode cL_law 1341 = .ok (.aload_n 0, 1) := by decide +kernel
theorem dL_law_1342 : decode cL_law 1342 = .ok (.iload_n 3, 1) := by decide +kernel
theorem dL_law_1343 : decode cL_law 1343 = .ok (.iconst 3, 1) := by decide +kernel
theorem dL_law_1344 : decode cL_law 1344 = .ok (.iadd, 1) := by decide +kernel
theorem dL_law_1345 : decode cL_law 1345 = .ok (.iaload, 1) := by decide +kernel
theorem dL_law_1346 : decode cL_law 1346 = .ok (.i2l, 1) := by decide +kernel
theorem dL_law_1347 : decode cL_law 1347 = .ok (.bipush 32, 2) := by decide +kernel
theorem dL_law_1349 : decode cL_law 1349 = .ok (.lshl, 1) := by decide +kernel
theorem dL_law_1350 : decode cL_law 1350 = .ok (.aload_n 0, 1) := by decide +kernel
theorem dL_law_1351 : decode cL_law 1351 = .ok (.iload_n 3, 1) := by decide +kernel
theorem dL_law_1352 : decode cL_law 1352 = .ok (.iconst 4, 1) := by decide +kernel
theorem dL_law_1353 : decode cL_law 1353 = .ok (.iadd, 1) := by decide +kernel
theorem dL_law_1354 : decode cL_law 1354 = .ok (.iaload, 1) := by decide +kernel
theorem dL_law_1355 : decode cL_law 1355 = .ok (.i2l, 1) := by decide +kernel
theorem dL_law_1356 : decode cL_law 1356 = .ok (.ldc2_w 175, 3) := by decide +kernel
theorem dL_law_1359 : decode cL_law 1359 = .ok (.land, 1) := by decide +kernel
theorem dL_law_1360 : decode cL_law 1360 = .ok (.lor, 1) := by decide +kernel
theorem dL_law_1361 : decode cL_law 1361 = .ok (.invokevirtual 181, 3) := by decide +kernel
theorem dL_law_1364 : decode cL_law 1364 = .ok (.if_icmp .eq 102, 3) := by decide +kernel
theorem dL_law_1367 : decode cL_law 1367 = .ok (.iconst 0, 1) := by decide +kernel
theorem dL_law_1368 : decode cL_law 1368 = .ok (.ireturn, 1) := by decide +kernel
theorem dL_law_1369 : decode cL_law 1369 = .ok (.aload_n 1, 1) := by decide +kernel
theorem dL_law_1370 : decode cL_law 1370 = .ok (.aload_n 0, 1) := by decide +kernel
theorem dL_law_1371 : decode cL_law 1371 = .ok (.iload_n 3, 1) := by decide +kernel
theorem dL_law_1372 : decode cL_law 1372 = .ok (.iconst 1, 1) := by decide +kernel
theorem dL_law_1373 : decode cL_law 1373 = .ok (.iadd, 1) := by decide +kernel
theorem dL_law_1374 : decode cL_law 1374 = .ok (.iaload, 1) := by decide +kernel
theorem dL_law_1375 : decode cL_law 1375 = .ok (.aload_n 0, 1) := by decide +kernel
theorem dL_law_1376 : decode cL_law 1376 = .ok (.iload_n 3, 1) := by decide +kernel
theorem dL_law_1377 : decode cL_law 1377 = .ok (.iconst 2, 1) := by decide +kernel
theorem dL_law_1378 : decode cL_law 1378 = .ok (.iadd, 1) := by decide +kernel
theorem dL_law_1379 : decode cL_law 1379 = .ok (.iaload, 1) := by decide +kernel
theorem dL_law_1380 : decode cL_law 1380 = .ok (.invokevirtual 182, 3) := by decide +kernel
theorem dL_law_1383 : decode cL_law 1383 = .ok (.aload_n 2, 1) := by decide +kernel
theorem dL_law_1384 : decode cL_law 1384 = .ok (.aload_n 0, 1) := by decide +kernel
theorem dL_law_1385 : decode cL_law 1385 = .ok (.iload_n 3, 1) := by decide +kernel
theorem dL_law_1386 : decode cL_law 1386 = .ok (.iconst 1, 1) := by decide +kernel
theorem dL_law_1387 : decode cL_law 1387 = .ok (.iadd, 1) := by decide +kernel
theorem dL_law_1388 : decode cL_law 1388 = .ok (.iaload, 1) := by decide +kernel
theorem dL_law_1389 : decode cL_law 1389 = .ok (.aload_n 0, 1) := by decide +kernel
theorem dL_law_1390 : decode cL_law 1390 = .ok (.iload_n 3, 1) := by decide +kernel
theorem dL_law_1391 : decode cL_law 1391 = .ok (.iconst 2, 1) := by decide +kernel
theorem dL_law_1392 : decode cL_law 1392 = .ok (.iadd, 1) := by decide +kernel
theorem dL_law_1393 : decode cL_law 1393 = .ok (.iaload, 1) := by decide +kernel
theorem dL_law_1394 : decode cL_law 1394 = .ok (.invokevirtual 185, 3) := by decide +kernel
theorem dL_law_1397 : decode cL_law 1397 = .ok (.lcmp, 1) := by decide +kernel
theorem dL_law_1398 : decode cL_law 1398 = .ok (.ifCond .eq 68, 3) := by decide +kernel
theorem dL_law_1401 : decode cL_law 1401 = .ok (.iconst 0, 1) := by decide +kernel
theorem dL_law_1402 : decode cL_law 1402 = .ok (.ireturn, 1) := by decide +kernel
theorem dL_law_1403 : decode cL_law 1403 = .ok (.aload_n 1, 1) := by decide +kernel
theorem dL_law_1404 : decode cL_law 1404 = .ok (.aload_n 0, 1) := by decide +kernel
theorem dL_law_1405 : decode cL_law 1405 = .ok (.iload_n 3, 1) := by decide +kernel
theorem dL_law_1406 : decode cL_law 1406 = .ok (.iconst 1, 1) := by decide +kernel
theorem dL_law_1407 : decode cL_law 1407 = .ok (.iadd, 1) := by decide +kernel
theorem dL_law_1408 : decode cL_law 1408 = .ok (.iaload, 1) := by decide +kernel
theorem dL_law_1409 : decode cL_law 1409 = .ok (.aload_n 0, 1) := by decide +kernel
theorem dL_law_1410 : decode cL_law 1410 = .ok (.iload_n 3, 1) := by decide +kernel
theorem dL_law_1411 : decode cL_law 1411 = .ok (.iconst 2, 1) := by decide +kernel
theorem dL_law_1412 : decode cL_law 1412 = .ok (.iadd, 1) := by decide +kernel
theorem dL_law_1413 : decode cL_law 1413 = .ok (.iaload, 1) := by decide +kernel
theorem dL_law_1414 : decode cL_law 1414 = .ok (.aload_n 0, 1) := by decide +kernel
theorem dL_law_1415 : decode cL_law 1415 = .ok (.iload_n 3, 1) := by decide +kernel
theorem dL_law_1416 : decode cL_law 1416 = .ok (.iconst 3, 1) := by decide +kernel
theorem dL_law_1417 : decode cL_law 1417 = .ok (.iadd, 1) := by decide +kernel
theorem dL_law_1418 : decode cL_law 1418 = .ok (.iaload, 1) := by decide +kernel
theorem dL_law_1419 : decode cL_law 1419 = .ok (.aload_n 0, 1) := by decide +kernel
theorem dL_law_1420 : decode cL_law 1420 = .ok (.iload_n 3, 1) := by decide +kernel
theorem dL_law_1421 : decode cL_law 1421 = .ok (.iconst 4, 1) := by decide +kernel
theorem dL_law_1422 : decode cL_law 1422 = .ok (.iadd, 1) := by decide +kernel
theorem dL_law_1423 : decode cL_law 1423 = .ok (.iaload, 1) := by decide +kernel
theorem dL_law_1424 : decode cL_law 1424 = .ok (.aload_n 0, 1) := by decide +kernel
theorem dL_law_1425 : decode cL_law 1425 = .ok (.iload_n 3, 1) := by decide +kernel
theorem dL_law_1426 : decode cL_law 1426 = .ok (.iconst 5, 1) := by decide +kernel
theorem dL_law_1427 : decode cL_law 1427 = .ok (.iadd, 1) := by decide +kernel
theorem dL_law_1428 : decode cL_law 1428 = .ok (.iaload, 1) := by decide +kernel
theorem dL_law_1429 : decode cL_law 1429 = .ok (.invokevirtual 186, 3) := by decide +kernel
theorem dL_law_1432 : decode cL_law 1432 = .ok (.aload_n 2, 1) := by decide +kernel
theorem dL_law_1433 : decode cL_law 1433 = .ok (.aload_n 0, 1) := by decide +kernel
theorem dL_law_1434 : decode cL_law 1434 = .ok (.iload_n 3, 1) := by decide +kernel
theorem dL_law_1435 : decode cL_law 1435 = .ok (.iconst 1, 1) := by decide +kernel
theorem dL_law_1436 : decode cL_law 1436 = .ok (.iadd, 1) := by decide +kernel
theorem dL_law_1437 : decode cL_law 1437 = .ok (.iaload, 1) := by decide +kernel
theorem dL_law_1438 : decode cL_law 1438 = .ok (.aload_n 0, 1) := by decide +kernel
theorem dL_law_1439 : decode cL_law 1439 = .ok (.iload_n 3, 1) := by decide +kernel
theorem dL_law_1440 : decode cL_law 1440 = .ok (.iconst 2, 1) := by decide +kernel
theorem dL_law_1441 : decode cL_law 1441 = .ok (.iadd, 1) := by decide +kernel
theorem dL_law_1442 : decode cL_law 1442 = .ok (.iaload, 1) := by decide +kernel
theorem dL_law_1443 : decode cL_law 1443 = .ok (.aload_n 0, 1) := by decide +kernel
theorem dL_law_1444 : decode cL_law 1444 = .ok (.iload_n 3, 1) := by decide +kernel
theorem dL_law_1445 : decode cL_law 1445 = .ok (.iconst 3, 1) := by decide +kernel
theorem dL_law_1446 : decode cL_law 1446 = .ok (.iadd, 1) := by decide +kernel
theorem dL_law_1447 : decode cL_law 1447 = .ok (.iaload, 1) := by decide +kernel
theorem dL_law_1448 : decode cL_law 1448 = .ok (.aload_n 0, 1) := by decide +kernel
theorem dL_law_1449 : decode cL_law 1449 = .ok (.iload_n 3, 1) := by decide +kernel
theorem dL_law_1450 : decode cL_law 1450 = .ok (.iconst 4, 1) := by decide +kernel
theorem dL_law_1451 : decode cL_law 1451 = .ok (.iadd, 1) := by decide +kernel
theorem dL_law_1452 : decode cL_law 1452 = .ok (.iaload, 1) := by decide +kernel
theorem dL_law_1453 : decode cL_law 1453 = .ok (.aload_n 0, 1) := by decide +kernel
theorem dL_law_1454 : decode cL_law 1454 = .ok (.iload_n 3, 1) := by decide +kernel
theorem dL_law_1455 : decode cL_law 1455 = .ok (.iconst 5, 1) := by decide +kernel
theorem dL_law_1456 : decode cL_law 1456 = .ok (.iadd, 1) := by decide +kernel
theorem dL_law_1457 : decode cL_law 1457 = .ok (.iaload, 1) := by decide +kernel
theorem dL_law_1458 : decode cL_law 1458 = .ok (.invokevirtual 190, 3) := by decide +kernel
theorem dL_law_1461 : decode cL_law 1461 = .ok (.if_icmp .eq 5, 3) := by decide +kernel
theorem dL_law_1464 : decode cL_law 1464 = .ok (.iconst 0, 1) := by decide +kernel
theorem dL_law_1465 : decode cL_law 1465 = .ok (.ireturn, 1) := by decide +kernel
theorem dL_law_1466 : decode cL_law 1466 = .ok (.iinc 3 6, 3) := by decide +kernel
theorem dL_law_1469 : decode cL_law 1469 = .ok (.goto (-1451), 3) := by decide +kernel
theorem dL_law_1472 : decode cL_law 1472 = .ok (.iconst 1, 1) := by decide +kernel
theorem dL_law_1473 : decode cL_law 1473 = .ok (.ireturn, 1) := by decide +kernel
theorem qm_L_13 : x_in (.methodLink RL 13 yX9_area) := ⟨List.mem_of_getElem? (i := 392) (by decide +kernel), Or.inl (by decide +kernel)⟩
theorem qi_X9_area : x_in (.instanceMethod yX9_area) := ⟨List.mem_of_getElem? (i := 393) (by decide +kernel), Or.inl (by decide +kernel)⟩
theorem qs_X9_area : x_in (.selects RX9 yX9_area yX9_area) := ⟨List.mem_of_getElem? (i := 394) (by decide +kernel), Or.inl (by decide +kernel)⟩
theorem qd_X9_area : x_in (.code yX9_area cX9_area 3 (some .int)) := ⟨List.mem_of_getElem? (i := 395) (by decide +kernel), Or.inl (by decide +kernel)⟩
theorem qm_L_17 : x_in (.methodLink RL 17 yX10_area) := ⟨List.mem_of_getElem? (i := 1336) (by decide +kernel), Or.inl (by decide +kernel)⟩
theorem qi_X10_area : x_in (.instanceMethod yX10_area) := ⟨List.mem_of_getElem? (i := 1337) (by decide +kernel), Or.inl (by decide +kernel)⟩
theorem qs_X10_area : x_in (.selects RX10 yX10_area yX10_area) := ⟨List.mem_of_getElem? (i := 1338) (by decide +kernel), Or.inl (by decide +kernel)⟩
theorem qd_X10_area : x_in (.code yX10_area cX10_area 4 (some .int)) := ⟨List.mem_of_getElem? (i := 1339) (by decide +kernel), Or.inl (by decide +kernel)⟩
theorem qm_L_18 : x_in (.methodLink RL 18 yX9_volume) := ⟨List.mem_of_getElem? (i := 406) (by decide +kernel), Or.inl (by decide +kernel)⟩
theorem qi_X9_volume : x_in (.instanceMethod yX9_volume) := ⟨List.mem_of_getElem? (i := 407) (by decide +kernel), Or.inl (by decide +kernel)⟩
theorem qs_X9_volume : x_in (.selects RX9 yX9_volume yX9_volume) := ⟨List.mem_of_getElem? (i := 408) (by decide +kernel), Or.inl (by decide +kernel)⟩
theorem qd_X9_volume : x_in (.code yX9_volume cX9_volume 2 (some .int)) := ⟨List.mem_of_getElem? (i := 409) (by decide +kernel), Or.inl (by decide +kernel)⟩
theorem qm_L_22 : x_in (.methodLink RL 22 yX10_volume) := ⟨List.mem_of_getElem? (i := 1344) (by decide +kernel), Or.inl (by decide +kernel)⟩
theorem qi_X10_volume : x_in (.instanceMethod yX10_volume) := ⟨List.mem_of_getElem? (i := 1345) (by decide +kernel), Or.inl (by decide +kernel)⟩
theorem qs_X10_volume : x_in (.selects RX10 yX10_volume yX10_volume) := ⟨List.mem_of_getElem? (i := 1346) (by decide +kernel), Or.inl (by decide +kernel)⟩
theorem qd_X10_volume : x_in (.code yX10_volume cX10_volume 2 (some .int)) := ⟨List.mem_of_getElem? (i := 1347) (by decide +kernel), Or.inl (by decide +kernel)⟩
theorem qm_L_23 : x_in (.methodLink RL 23 yX9_account) := ⟨List.mem_of_getElem? (i := 418) (by decide +kernel), Or.inl (by decide +kernel)⟩
theorem qi_X9_account : x_in (.instanceMethod yX9_account) := ⟨List.mem_of_getElem? (i := 419) (by decide +kernel), Or.inl (by decide +kernel)⟩
theorem qs_X9_account : x_in (.selects RX9 yX9_account yX9_account) := ⟨List.mem_of_getElem? (i := 420) (by decide +kernel), Or.inl (by decide +kernel)⟩
theorem qd_X9_account : x_in (.code yX9_account cX9_account 4 (some .int)) := ⟨List.mem_of_getElem? (i := 421) (by decide +kernel), Or.inl (by decide +kernel)⟩
theorem qm_L_27 : x_in (.methodLink RL 27 yX10_account) := ⟨List.mem_of_getElem? (i := 1352) (by decide +kernel), Or.inl (by decide +kernel)⟩
theorem qi_X10_account : x_in (.instanceMethod yX10_account) := ⟨List.mem_of_getElem? (i := 1353) (by decide +kernel), Or.inl (by decide +kernel)⟩
theorem qs_X10_account : x_in (.selects RX10 yX10_account yX10_account) := ⟨List.mem_of_getElem? (i := 1354) (by decide +kernel), Or.inl (by decide +kernel)⟩
theorem qd_X10_account : x_in (.code yX10_account cX10_account 5 (some .int)) := ⟨List.mem_of_getElem? (i := 1355) (by decide +kernel), Or.inl (by decide +kernel)⟩
theorem qm_L_28 : x_in (.methodLink RL 28 yX9_of) := ⟨List.mem_of_getElem? (i := 434) (by decide +kernel), Or.inl (by decide +kernel)⟩
theorem qi_X9_of : x_in (.instanceMethod yX9_of) := ⟨List.mem_of_getElem? (i := 435) (by decide +kernel), Or.inl (by decide +kernel)⟩
theorem qs_X9_of : x_in (.selects RX9 yX9_of yX9_of) := ⟨List.mem_of_getElem? (i := 436) (by decide +kernel), Or.inl (by decide +kernel)⟩
theorem qd_X9_of : x_in (.code yX9_of cX9_of 4 (some .int)) := ⟨List.mem_of_getElem? (i := 437) (by decide +kernel), Or.inl (by decide +kernel)⟩
theorem qm_L_31 : x_in (.methodLink RL 31 yX10_of) := ⟨List.mem_of_getElem? (i := 1444) (by decide +kernel), Or.inl (by decide +kernel)⟩
theorem qi_X10_of : x_in (.instanceMethod yX10_of) := ⟨List.mem_of_getElem? (i := 1445) (by decide +kernel), Or.inl (by decide +kernel)⟩
theorem qs_X10_of : x_in (.selects RX10 yX10_of yX10_of) := ⟨List.mem_of_getElem? (i := 1446) (by decide +kernel), Or.inl (by decide +kernel)⟩
theorem qd_X10_of : x_in (.code yX10_of cX10_of 3 (some .int)) := ⟨List.mem_of_getElem? (i := 1447) (by decide +kernel), Or.inl (by decide +kernel)⟩
theorem qm_L_32 : x_in (.methodLink RL 32 yX9_set) := ⟨List.mem_of_getElem? (i := 484) (by decide +kernel), Or.inl (by decide +kernel)⟩
theorem qi_X9_set : x_in (.instanceMethod yX9_set) := ⟨List.mem_of_getElem? (i := 485) (by decide +kernel), Or.inl (by decide +kernel)⟩
theorem qs_X9_set : x_in (.selects RX9 yX9_set yX9_set) := ⟨List.mem_of_getElem? (i := 486) (by decide +kernel), Or.inl (by decide +kernel)⟩
theorem qd_X9_set : x_in (.code yX9_set cX9_set 5 (some .int)) := ⟨List.mem_of_getElem? (i := 487) (by decide +kernel), Or.inl (by decide +kernel)⟩
theorem qm_L_35 : x_in (.methodLink RL 35 yX10_set) := ⟨List.mem_of_getElem? (i := 1372) (by decide +kernel), Or.inl (by decide +kernel)⟩
theorem qi_X10_set : x_in (.instanceMethod yX10_set) := ⟨List.mem_of_getElem? (i := 1373) (by decide +kernel), Or.inl (by decide +kernel)⟩
theorem qs_X10_set : x_in (.selects RX10 yX10_set yX10_set) := ⟨List.mem_of_getElem? (i := 1374) (by decide +kernel), Or.inl (by decide +kernel)⟩
theorem qd_X10_set : x_in (.code yX10_set cX10_set 6 (some .int)) := ⟨List.mem_of_getElem? (i := 1375) (by decide +kernel), Or.inl (by decide +kernel)⟩
theorem qm_L_36 : x_in (.methodLink RL 36 yX9_row) := ⟨List.mem_of_getElem? (i := 495) (by decide +kernel), Or.inl (by decide +kernel)⟩
theorem qi_X9_row : x_in (.instanceMethod yX9_row) := ⟨List.mem_of_getElem? (i := 496) (by decide +kernel), Or.inl (by decide +kernel)⟩
theorem qs_X9_row : x_in (.selects RX9 yX9_row yX9_row) := ⟨List.mem_of_getElem? (i := 497) (by decide +kernel), Or.inl (by decide +kernel)⟩
theorem qd_X9_row : x_in (.code yX9_row cX9_row 5 (some .int)) := ⟨List.mem_of_getElem? (i := 498) (by decide +kernel), Or.inl (by decide +kernel)⟩
theorem qm_L_39 : x_in (.methodLink RL 39 yX10_row) := ⟨List.mem_of_getElem? (i := 1360) (by decide +kernel), Or.inl (by decide +kernel)⟩
theorem qi_X10_row : x_in (.instanceMethod yX10_row) := ⟨List.mem_of_getElem? (i := 1361) (by decide +kernel), Or.inl (by decide +kernel)⟩
theorem qs_X10_row : x_in (.selects RX10 yX10_row yX10_row) := ⟨List.mem_of_getElem? (i := 1362) (by decide +kernel), Or.inl (by decide +kernel)⟩
theorem qd_X10_row : x_in (.code yX10_row cX10_row 5 (some .int)) := ⟨List.mem_of_getElem? (i := 1363) (by decide +kernel), Or.inl (by decide +kernel)⟩
theorem qm_L_40 : x_in (.methodLink RL 40 yX9_water) := ⟨List.mem_of_getElem? (i := 503) (by decide +kernel), Or.inl (by decide +kernel)⟩
theorem qi_X9_water : x_in (.instanceMethod yX9_water) := ⟨List.mem_of_getElem? (i := 504) (by decide +kernel), Or.inl (by decide +kernel)⟩
theorem qs_X9_water : x_in (.selects RX9 yX9_water yX9_water) := ⟨List.mem_of_getElem? (i := 505) (by decide +kernel), Or.inl (by decide +kernel)⟩
theorem qd_X9_water : x_in (.code yX9_water cX9_water 3 (some .int)) := ⟨List.mem_of_getElem? (i := 506) (by decide +kernel), Or.inl (by decide +kernel)⟩
theorem qm_L_43 : x_in (.methodLink RL 43 yX10_water) := ⟨List.mem_of_getElem? (i := 1368) (by decide +kernel), Or.inl (by decide +kernel)⟩
theorem qi_X10_water : x_in (.instanceMethod yX10_water) := ⟨List.mem_of_getElem? (i := 1369) (by decide +kernel), Or.inl (by decide +kernel)⟩
theorem qs_X10_water : x_in (.selects RX10 yX10_water yX10_water) := ⟨List.mem_of_getElem? (i := 1370) (by decide +kernel), Or.inl (by decide +kernel)⟩
theorem qd_X10_water : x_in (.code yX10_water cX10_water 3 (some .int)) := ⟨List.mem_of_getElem? (i := 1371) (by decide +kernel), Or.inl (by decide +kernel)⟩
theorem qm_L_44 : x_in (.methodLink RL 44 yX9_feed) := ⟨List.mem_of_getElem? (i := 507) (by decide +kernel), Or.inl (by decide +kernel)⟩
theorem qi_X9_feed : x_in (.instanceMethod yX9_feed) := ⟨List.mem_of_getElem? (i := 508) (by decide +kernel), Or.inl (by decide +kernel)⟩
theorem qs_X9_feed : x_in (.selects RX9 yX9_feed yX9_feed) := ⟨List.mem_of_getElem? (i := 509) (by decide +kernel), Or.inl (by decide +kernel)⟩
theorem qd_X9_feed : x_in (.code yX9_feed cX9_feed 2 (some .int)) := ⟨List.mem_of_getElem? (i := 510) (by decide +kernel), Or.inl (by decide +kernel)⟩
theorem qm_L_47 : x_in (.methodLink RL 47 yX10_feed) := ⟨List.mem_of_getElem? (i := 1376) (by decide +kernel), Or.inl (by decide +kernel)⟩
theorem qi_X10_feed : x_in (.instanceMethod yX10_feed) := ⟨List.mem_of_getElem? (i := 1377) (by decide +kernel), Or.inl (by decide +kernel)⟩
theorem qs_X10_feed : x_in (.selects RX10 yX10_feed yX10_feed) := ⟨List.mem_of_getElem? (i := 1378) (by decide +kernel), Or.inl (by decide +kernel)⟩
theorem qd_X10_feed : x_in (.code yX10_feed cX10_feed 2 (some .int)) := ⟨List.mem_of_getElem? (i := 1379) (by decide +kernel), Or.inl (by decide +kernel)⟩
theorem qm_L_48 : x_in (.methodLink RL 48 yX9_law) := ⟨List.mem_of_getElem? (i := 516) (by decide +kernel), Or.inl (by decide +kernel)⟩
theorem qi_X9_law : x_in (.instanceMethod yX9_law) := ⟨List.mem_of_getElem? (i := 517) (by decide +kernel), Or.inl (by decide +kernel)⟩
theorem qs_X9_law : x_in (.selects RX9 yX9_law yX9_law) := ⟨List.mem_of_getElem? (i := 518) (by decide +kernel), Or.inl (by decide +kernel)⟩
theorem qd_X9_law : x_in (.code yX9_law cX9_law 3 (some .int)) := ⟨List.mem_of_getElem? (i := 519) (by decide +kernel), Or.inl (by decide +kernel)⟩
theorem qm_L_52 : x_in (.methodLink RL 52 yX10_law) := ⟨List.mem_of_getElem? (i := 1380) (by decide +kernel), Or.inl (by decide +kernel)⟩
theorem qi_X10_law : x_in (.instanceMethod yX10_law) := ⟨List.mem_of_getElem? (i := 1381) (by decide +kernel), Or.inl (by decide +kernel)⟩
theorem qs_X10_law : x_in (.selects RX10 yX10_law yX10_law) := ⟨List.mem_of_getElem? (i := 1382) (by decide +kernel), Or.inl (by decide +kernel)⟩
theorem qd_X10_law : x_in (.code yX10_law cX10_law 2 (some .int)) := ⟨List.mem_of_getElem? (i := 1383) (by decide +kernel), Or.inl (by decide +kernel)⟩
theorem qm_L_53 : x_in (.methodLink RL 53 yX9_told) := ⟨List.mem_of_getElem? (i := 694) (by decide +kernel), Or.inl (by decide +kernel)⟩
theorem qi_X9_told : x_in (.instanceMethod yX9_told) := ⟨List.mem_of_getElem? (i := 695) (by decide +kernel), Or.inl (by decide +kernel)⟩
theorem qs_X9_told : x_in (.selects RX9 yX9_told yX9_told) := ⟨List.mem_of_getElem? (i := 696) (by decide +kernel), Or.inl (by decide +kernel)⟩
theorem qd_X9_told : x_in (.code yX9_told cX9_told 2 (some .int)) := ⟨List.mem_of_getElem? (i := 697) (by decide +kernel), Or.inl (by decide +kernel)⟩
theorem qm_L_56 : x_in (.methodLink RL 56 yX10_told) := ⟨List.mem_of_getElem? (i := 1492) (by decide +kernel), Or.inl (by decide +kernel)⟩
theorem qi_X10_told : x_in (.instanceMethod yX10_told) := ⟨List.mem_of_getElem? (i := 1493) (by decide +kernel), Or.inl (by decide +kernel)⟩
theorem qs_X10_told : x_in (.selects RX10 yX10_told yX10_told) := ⟨List.mem_of_getElem? (i := 1494) (by decide +kernel), Or.inl (by decide +kernel)⟩
theorem qd_X10_told : x_in (.code yX10_told cX10_told 2 (some .int)) := ⟨List.mem_of_getElem? (i := 1495) (by decide +kernel), Or.inl (by decide +kernel)⟩
theorem qm_L_57 : x_in (.methodLink RL 57 yX9_day) := ⟨List.mem_of_getElem? (i := 706) (by decide +kernel), Or.inl (by decide +kernel)⟩
theorem qi_X9_day : x_in (.instanceMethod yX9_day) := ⟨List.mem_of_getElem? (i := 707) (by decide +kernel), Or.inl (by decide +kernel)⟩
theorem qs_X9_day : x_in (.selects RX9 yX9_day yX9_day) := ⟨List.mem_of_getElem? (i := 708) (by decide +kernel), Or.inl (by decide +kernel)⟩
theorem qd_X9_day : x_in (.code yX9_day cX9_day 1 (some .int)) := ⟨List.mem_of_getElem? (i := 709) (by decide +kernel), Or.inl (by decide +kernel)⟩
theorem qm_L_60 : x_in (.methodLink RL 60 yX10_day) := ⟨List.mem_of_getElem? (i := 1508) (by decide +kernel), Or.inl (by decide +kernel)⟩
theorem qi_X10_day : x_in (.instanceMethod yX10_day) := ⟨List.mem_of_getElem? (i := 1509) (by decide +kernel), Or.inl (by decide +kernel)⟩
theorem qs_X10_day : x_in (.selects RX10 yX10_day yX10_day) := ⟨List.mem_of_getElem? (i := 1510) (by decide +kernel), Or.inl (by decide +kernel)⟩
theorem qd_X10_day : x_in (.code yX10_day cX10_day 1 (some .int)) := ⟨List.mem_of_getElem? (i := 1511) (by decide +kernel), Or.inl (by decide +kernel)⟩
theorem qm_L_61 : x_in (.methodLink RL 61 yX9_on) := ⟨List.mem_of_getElem? (i := 735) (by decide +kernel), Or.inl (by decide +kernel)⟩
theorem qi_X9_on : x_in (.instanceMethod yX9_on) := ⟨List.mem_of_getElem? (i := 736) (by decide +kernel), Or.inl (by decide +kernel)⟩
theorem qs_X9_on : x_in (.selects RX9 yX9_on yX9_on) := ⟨List.mem_of_getElem? (i := 737) (by decide +kernel), Or.inl (by decide +kernel)⟩
theorem qd_X9_on : x_in (.code yX9_on cX9_on 5 (some .int)) := ⟨List.mem_of_getElem? (i := 738) (by decide +kernel), Or.inl (by decide +kernel)⟩
theorem qm_L_64 : x_in (.methodLink RL 64 yX10_on) := ⟨List.mem_of_getElem? (i := 1525) (by decide +kernel), Or.inl (by decide +kernel)⟩
theorem qi_X10_on : x_in (.instanceMethod yX10_on) := ⟨List.mem_of_getElem? (i := 1526) (by decide +kernel), Or.inl (by decide +kernel)⟩
theorem qs_X10_on : x_in (.selects RX10 yX10_on yX10_on) := ⟨List.mem_of_getElem? (i := 1527) (by decide +kernel), Or.inl (by decide +kernel)⟩
theorem qd_X10_on : x_in (.code yX10_on cX10_on 4 (some .int)) := ⟨List.mem_of_getElem? (i := 1528) (by decide +kernel), Or.inl (by decide +kernel)⟩
theorem qm_L_65 : x_in (.methodLink RL 65 yX9_dry) := ⟨List.mem_of_getElem? (i := 766) (by decide +kernel), Or.inl (by decide +kernel)⟩
theorem qi_X9_dry : x_in (.instanceMethod yX9_dry) := ⟨List.mem_of_getElem? (i := 767) (by decide +kernel), Or.inl (by decide +kernel)⟩
theorem qs_X9_dry : x_in (.selects RX9 yX9_dry yX9_dry) := ⟨List.mem_of_getElem? (i := 768) (by decide +kernel), Or.inl (by decide +kernel)⟩
theorem qd_X9_dry : x_in (.code yX9_dry cX9_dry 1 (some .int)) := ⟨List.mem_of_getElem? (i := 769) (by decide +kernel), Or.inl (by decide +kernel)⟩
theorem qm_L_68 : x_in (.methodLink RL 68 yX10_dry) := ⟨List.mem_of_getElem? (i := 1545) (by decide +kernel), Or.inl (by decide +kernel)⟩
theorem qi_X10_dry : x_in (.instanceMethod yX10_dry) := ⟨List.mem_of_getElem? (i := 1546) (by decide +kernel), Or.inl (by decide +kernel)⟩
theorem qs_X10_dry : x_in (.selects RX10 yX10_dry yX10_dry) := ⟨List.mem_of_getElem? (i := 1547) (by decide +kernel), Or.inl (by decide +kernel)⟩
theorem qd_X10_dry : x_in (.code yX10_dry cX10_dry 2 (some .int)) := ⟨List.mem_of_getElem? (i := 1548) (by decide +kernel), Or.inl (by decide +kernel)⟩
theorem qm_L_69 : x_in (.methodLink RL 69 yX9_lowest) := ⟨List.mem_of_getElem? (i := 778) (by decide +kernel), Or.inl (by decide +kernel)⟩
theorem qi_X9_lowest : x_in (.instanceMethod yX9_lowest) := ⟨List.mem_of_getElem? (i := 779) (by decide +kernel), Or.inl (by decide +kernel)⟩
theorem qs_X9_lowest : x_in (.selects RX9 yX9_lowest yX9_lowest) := ⟨List.mem_of_getElem? (i := 780) (by decide +kernel), Or.inl (by decide +kernel)⟩
theorem qd_X9_lowest : x_in (.code yX9_lowest cX9_lowest 2 (some .int)) := ⟨List.mem_of_getElem? (i := 781) (by decide +kernel), Or.inl (by decide +kernel)⟩
theorem qm_L_72 : x_in (.methodLink RL 72 yX10_lowest) := ⟨List.mem_of_getElem? (i := 1549) (by decide +kernel), Or.inl (by decide +kernel)⟩
theorem qi_X10_lowest : x_in (.instanceMethod yX10_lowest) := ⟨List.mem_of_getElem? (i := 1550) (by decide +kernel), Or.inl (by decide +kernel)⟩
theorem qs_X10_lowest : x_in (.selects RX10 yX10_lowest yX10_lowest) := ⟨List.mem_of_getElem? (i := 1551) (by decide +kernel), Or.inl (by decide +kernel)⟩
theorem qd_X10_lowest : x_in (.code yX10_lowest cX10_lowest 6 (some .int)) := ⟨List.mem_of_getElem? (i := 1552) (by decide +kernel), Or.inl (by decide +kernel)⟩
theorem qm_L_73 : x_in (.methodLink RL 73 yX9_ruined) := ⟨List.mem_of_getElem? (i := 787) (by decide +kernel), Or.inl (by decide +kernel)⟩
theorem qi_X9_ruined : x_in (.instanceMethod yX9_ruined) := ⟨List.mem_of_getElem? (i := 788) (by decide +kernel), Or.inl (by decide +kernel)⟩
theorem qs_X9_ruined : x_in (.selects RX9 yX9_ruined yX9_ruined) := ⟨List.mem_of_getElem? (i := 789) (by decide +kernel), Or.inl (by decide +kernel)⟩
theorem qd_X9_ruined : x_in (.code yX9_ruined cX9_ruined 2 (some .int)) := ⟨List.mem_of_getElem? (i := 790) (by decide +kernel), Or.inl (by decide +kernel)⟩
theorem qm_L_76 : x_in (.methodLink RL 76 yX10_ruined) := ⟨List.mem_of_getElem? (i := 1553) (by decide +kernel), Or.inl (by decide +kernel)⟩
theorem qi_X10_ruined : x_in (.instanceMethod yX10_ruined) := ⟨List.mem_of_getElem? (i := 1554) (by decide +kernel), Or.inl (by decide +kernel)⟩
theorem qs_X10_ruined : x_in (.selects RX10 yX10_ruined yX10_ruined) := ⟨List.mem_of_getElem? (i := 1555) (by decide +kernel), Or.inl (by decide +kernel)⟩
theorem qd_X10_ruined : x_in (.code yX10_ruined cX10_ruined 4 (some .int)) := ⟨List.mem_of_getElem? (i := 1556) (by decide +kernel), Or.inl (by decide +kernel)⟩
theorem qm_L_77 : x_in (.methodLink RL 77 yX9_may) := ⟨List.mem_of_getElem? (i := 800) (by decide +kernel), Or.inl (by decide +kernel)⟩
theorem qi_X9_may : x_in (.instanceMethod yX9_may) := ⟨List.mem_of_getElem? (i := 801) (by decide +kernel), Or.inl (by decide +kernel)⟩
theorem qs_X9_may : x_in (.selects RX9 yX9_may yX9_may) := ⟨List.mem_of_getElem? (i := 802) (by decide +kernel), Or.inl (by decide +kernel)⟩
theorem qd_X9_may : x_in (.code yX9_may cX9_may 3 (some .int)) := ⟨List.mem_of_getElem? (i := 803) (by decide +kernel), Or.inl (by decide +kernel)⟩
theorem qm_L_80 : x_in (.methodLink RL 80 yX10_may) := ⟨List.mem_of_getElem? (i := 1561) (by decide +kernel), Or.inl (by decide +kernel)⟩
theorem qi_X10_may : x_in (.instanceMethod yX10_may) := ⟨List.mem_of_getElem? (i := 1562) (by decide +kernel), Or.inl (by decide +kernel)⟩
theorem qs_X10_may : x_in (.selects RX10 yX10_may yX10_may) := ⟨List.mem_of_getElem? (i := 1563) (by decide +kernel), Or.inl (by decide +kernel)⟩
theorem qd_X10_may : x_in (.code yX10_may cX10_may 6 (some .int)) := ⟨List.mem_of_getElem? (i := 1564) (by decide +kernel), Or.inl (by decide +kernel)⟩
theorem qm_L_81 : x_in (.methodLink RL 81 yX9_enough) := ⟨List.mem_of_getElem? (i := 813) (by decide +kernel), Or.inl (by decide +kernel)⟩
theorem qi_X9_enough : x_in (.instanceMethod yX9_enough) := ⟨List.mem_of_getElem? (i := 814) (by decide +kernel), Or.inl (by decide +kernel)⟩
theorem qs_X9_enough : x_in (.selects RX9 yX9_enough yX9_enough) := ⟨List.mem_of_getElem? (i := 815) (by decide +kernel), Or.inl (by decide +kernel)⟩
theorem qd_X9_enough : x_in (.code yX9_enough cX9_enough 3 (some .int)) := ⟨List.mem_of_getElem? (i := 816) (by decide +kernel), Or.inl (by decide +kernel)⟩
theorem qm_L_84 : x_in (.methodLink RL 84 yX10_enough) := ⟨List.mem_of_getElem? (i := 1569) (by decide +kernel), Or.inl (by decide +kernel)⟩
theorem qi_X10_enough : x_in (.instanceMethod yX10_enough) := ⟨List.mem_of_getElem? (i := 1570) (by decide +kernel), Or.inl (by decide +kernel)⟩
theorem qs_X10_enough : x_in (.selects RX10 yX10_enough yX10_enough) := ⟨List.mem_of_getElem? (i := 1571) (by decide +kernel), Or.inl (by decide +kernel)⟩
theorem qd_X10_enough : x_in (.code yX10_enough cX10_enough 4 (some .int)) := ⟨List.mem_of_getElem? (i := 1572) (by decide +kernel), Or.inl (by decide +kernel)⟩
theorem qm_L_85 : x_in (.methodLink RL 85 yX9_lifted) := ⟨List.mem_of_getElem? (i := 822) (by decide +kernel), Or.inl (by decide +kernel)⟩
theorem qi_X9_lifted : x_in (.instanceMethod yX9_lifted) := ⟨List.mem_of_getElem? (i := 823) (by decide +kernel), Or.inl (by decide +kernel)⟩
theorem qs_X9_lifted : x_in (.selects RX9 yX9_lifted yX9_lifted) := ⟨List.mem_of_getElem? (i := 824) (by decide +kernel), Or.inl (by decide +kernel)⟩
theorem qd_X9_lifted : x_in (.code yX9_lifted cX9_lifted 1 (some .int)) := ⟨List.mem_of_getElem? (i := 825) (by decide +kernel), Or.inl (by decide +kernel)⟩
theorem qm_L_88 : x_in (.methodLink RL 88 yX10_lifted) := ⟨List.mem_of_getElem? (i := 1573) (by decide +kernel), Or.inl (by decide +kernel)⟩
theorem qi_X10_lifted : x_in (.instanceMethod yX10_lifted) := ⟨List.mem_of_getElem? (i := 1574) (by decide +kernel), Or.inl (by decide +kernel)⟩
theorem qs_X10_lifted : x_in (.selects RX10 yX10_lifted yX10_lifted) := ⟨List.mem_of_getElem? (i := 1575) (by decide +kernel), Or.inl (by decide +kernel)⟩
theorem qd_X10_lifted : x_in (.code yX10_lifted cX10_lifted 1 (some .int)) := ⟨List.mem_of_getElem? (i := 1576) (by decide +kernel), Or.inl (by decide +kernel)⟩
theorem qm_L_89 : x_in (.methodLink RL 89 yX9_without) := ⟨List.mem_of_getElem? (i := 827) (by decide +kernel), Or.inl (by decide +kernel)⟩
theorem qi_X9_without : x_in (.instanceMethod yX9_without) := ⟨List.mem_of_getElem? (i := 828) (by decide +kernel), Or.inl (by decide +kernel)⟩
theorem qs_X9_without : x_in (.selects RX9 yX9_without yX9_without) := ⟨List.mem_of_getElem? (i := 829) (by decide +kernel), Or.inl (by decide +kernel)⟩
theorem qd_X9_without : x_in (.code yX9_without cX9_without 3 (some .int)) := ⟨List.mem_of_getElem? (i := 830) (by decide +kernel), Or.inl (by decide +kernel)⟩
theorem qm_L_92 : x_in (.methodLink RL 92 yX10_without) := ⟨List.mem_of_getElem? (i := 1577) (by decide +kernel), Or.inl (by decide +kernel)⟩
theorem qi_X10_without : x_in (.instanceMethod yX10_without) := ⟨List.mem_of_getElem? (i := 1578) (by decide +kernel), Or.inl (by decide +kernel)⟩
theorem qs_X10_without : x_in (.selects RX10 yX10_without yX10_without) := ⟨List.mem_of_getElem? (i := 1579) (by decide +kernel), Or.inl (by decide +kernel)⟩
theorem qd_X10_without : x_in (.code yX10_without cX10_without 4 (some .int)) := ⟨List.mem_of_getElem? (i := 1580) (by decide +kernel), Or.inl (by decide +kernel)⟩
theorem qm_L_93 : x_in (.methodLink RL 93 yX9_wells) := ⟨List.mem_of_getElem? (i := 842) (by decide +kernel), Or.inl (by decide +kernel)⟩
theorem qi_X9_wells : x_in (.instanceMethod yX9_wells) := ⟨List.mem_of_getElem? (i := 843) (by decide +kernel), Or.inl (by decide +kernel)⟩
theorem qs_X9_wells : x_in (.selects RX9 yX9_wells yX9_wells) := ⟨List.mem_of_getElem? (i := 844) (by decide +kernel), Or.inl (by decide +kernel)⟩
theorem qd_X9_wells : x_in (.code yX9_wells cX9_wells 2 (some .int)) := ⟨List.mem_of_getElem? (i := 845) (by decide +kernel), Or.inl (by decide +kernel)⟩
theorem qm_L_96 : x_in (.methodLink RL 96 yX10_wells) := ⟨List.mem_of_getElem? (i := 1587) (by decide +kernel), Or.inl (by decide +kernel)⟩
theorem qi_X10_wells : x_in (.instanceMethod yX10_wells) := ⟨List.mem_of_getElem? (i := 1588) (by decide +kernel), Or.inl (by decide +kernel)⟩
theorem qs_X10_wells : x_in (.selects RX10 yX10_wells yX10_wells) := ⟨List.mem_of_getElem? (i := 1589) (by decide +kernel), Or.inl (by decide +kernel)⟩
theorem qd_X10_wells : x_in (.code yX10_wells cX10_wells 4 (some .int)) := ⟨List.mem_of_getElem? (i := 1590) (by decide +kernel), Or.inl (by decide +kernel)⟩
theorem qm_L_97 : x_in (.methodLink RL 97 yX9_share) := ⟨List.mem_of_getElem? (i := 850) (by decide +kernel), Or.inl (by decide +kernel)⟩
theorem qi_X9_share : x_in (.instanceMethod yX9_share) := ⟨List.mem_of_getElem? (i := 851) (by decide +kernel), Or.inl (by decide +kernel)⟩
theorem qs_X9_share : x_in (.selects RX9 yX9_share yX9_share) := ⟨List.mem_of_getElem? (i := 852) (by decide +kernel), Or.inl (by decide +kernel)⟩
theorem qd_X9_share : x_in (.code yX9_share cX9_share 4 (some .long)) := ⟨List.mem_of_getElem? (i := 853) (by decide +kernel), Or.inl (by decide +kernel)⟩
theorem qm_L_101 : x_in (.methodLink RL 101 yX10_share) := ⟨List.mem_of_getElem? (i := 1591) (by decide +kernel), Or.inl (by decide +kernel)⟩
theorem qi_X10_share : x_in (.instanceMethod yX10_share) := ⟨List.mem_of_getElem? (i := 1592) (by decide +kernel), Or.inl (by decide +kernel)⟩
theorem qs_X10_share : x_in (.selects RX10 yX10_share yX10_share) := ⟨List.mem_of_getElem? (i := 1593) (by decide +kernel), Or.inl (by decide +kernel)⟩
theorem qd_X10_share : x_in (.code yX10_share cX10_share 8 (some .long)) := ⟨List.mem_of_getElem? (i := 1594) (by decide +kernel), Or.inl (by decide +kernel)⟩
theorem qm_L_102 : x_in (.methodLink RL 102 yX9_richest) := ⟨List.mem_of_getElem? (i := 872) (by decide +kernel), Or.inl (by decide +kernel)⟩
theorem qi_X9_richest : x_in (.instanceMethod yX9_richest) := ⟨List.mem_of_getElem? (i := 873) (by decide +kernel), Or.inl (by decide +kernel)⟩
theorem qs_X9_richest : x_in (.selects RX9 yX9_richest yX9_richest) := ⟨List.mem_of_getElem? (i := 874) (by decide +kernel), Or.inl (by decide +kernel)⟩
theorem qd_X9_richest : x_in (.code yX9_richest cX9_richest 2 (some .int)) := ⟨List.mem_of_getElem? (i := 875) (by decide +kernel), Or.inl (by decide +kernel)⟩
theorem qm_L_105 : x_in (.methodLink RL 105 yX10_richest) := ⟨List.mem_of_getElem? (i := 1604) (by decide +kernel), Or.inl (by decide +kernel)⟩
theorem qi_X10_richest : x_in (.instanceMethod yX10_richest) := ⟨List.mem_of_getElem? (i := 1605) (by decide +kernel), Or.inl (by decide +kernel)⟩
theorem qs_X10_richest : x_in (.selects RX10 yX10_richest yX10_richest) := ⟨List.mem_of_getElem? (i := 1606) (by decide +kernel), Or.inl (by decide +kernel)⟩
theorem qd_X10_richest : x_in (.code yX10_richest cX10_richest 4 (some .int)) := ⟨List.mem_of_getElem? (i := 1607) (by decide +kernel), Or.inl (by decide +kernel)⟩
theorem qm_L_106 : x_in (.methodLink RL 106 yX9_see) := ⟨List.mem_of_getElem? (i := 880) (by decide +kernel), Or.inl (by decide +kernel)⟩
theorem qi_X9_see : x_in (.instanceMethod yX9_see) := ⟨List.mem_of_getElem? (i := 881) (by decide +kernel), Or.inl (by decide +kernel)⟩
theorem qs_X9_see : x_in (.selects RX9 yX9_see yX9_see) := ⟨List.mem_of_getElem? (i := 882) (by decide +kernel), Or.inl (by decide +kernel)⟩
theorem qd_X9_see : x_in (.code yX9_see cX9_see 3 (some .int)) := ⟨List.mem_of_getElem? (i := 883) (by decide +kernel), Or.inl (by decide +kernel)⟩
theorem qm_L_109 : x_in (.methodLink RL 109 yX10_see) := ⟨List.mem_of_getElem? (i := 1608) (by decide +kernel), Or.inl (by decide +kernel)⟩
theorem qi_X10_see : x_in (.instanceMethod yX10_see) := ⟨List.mem_of_getElem? (i := 1609) (by decide +kernel), Or.inl (by decide +kernel)⟩
theorem qs_X10_see : x_in (.selects RX10 yX10_see yX10_see) := ⟨List.mem_of_getElem? (i := 1610) (by decide +kernel), Or.inl (by decide +kernel)⟩
theorem qd_X10_see : x_in (.code yX10_see cX10_see 3 (some .int)) := ⟨List.mem_of_getElem? (i := 1611) (by decide +kernel), Or.inl (by decide +kernel)⟩
theorem qm_L_110 : x_in (.methodLink RL 110 yX9_hidden) := ⟨List.mem_of_getElem? (i := 893) (by decide +kernel), Or.inl (by decide +kernel)⟩
theorem qi_X9_hidden : x_in (.instanceMethod yX9_hidden) := ⟨List.mem_of_getElem? (i := 894) (by decide +kernel), Or.inl (by decide +kernel)⟩
theorem qs_X9_hidden : x_in (.selects RX9 yX9_hidden yX9_hidden) := ⟨List.mem_of_getElem? (i := 895) (by decide +kernel), Or.inl (by decide +kernel)⟩
theorem qd_X9_hidden : x_in (.code yX9_hidden cX9_hidden 7 (some .int)) := ⟨List.mem_of_getElem? (i := 896) (by decide +kernel), Or.inl (by decide +kernel)⟩
theorem qm_L_113 : x_in (.methodLink RL 113 yX10_hidden) := ⟨List.mem_of_getElem? (i := 1612) (by decide +kernel), Or.inl (by decide +kernel)⟩
theorem qi_X10_hidden : x_in (.instanceMethod yX10_hidden) := ⟨List.mem_of_getElem? (i := 1613) (by decide +kernel), Or.inl (by decide +kernel)⟩
theorem qs_X10_hidden : x_in (.selects RX10 yX10_hidden yX10_hidden) := ⟨List.mem_of_getElem? (i := 1614) (by decide +kernel), Or.inl (by decide +kernel)⟩
theorem qd_X10_hidden : x_in (.code yX10_hidden cX10_hidden 7 (some .int)) := ⟨List.mem_of_getElem? (i := 1615) (by decide +kernel), Or.inl (by decide +kernel)⟩
theorem qm_L_114 : x_in (.methodLink RL 114 yX9_whose) := ⟨List.mem_of_getElem? (i := 926) (by decide +kernel), Or.inl (by decide +kernel)⟩
theorem qi_X9_whose : x_in (.instanceMethod yX9_whose) := ⟨List.mem_of_getElem? (i := 927) (by decide +kernel), Or.inl (by decide +kernel)⟩
theorem qs_X9_whose : x_in (.selects RX9 yX9_whose yX9_whose) := ⟨List.mem_of_getElem? (i := 928) (by decide +kernel), Or.inl (by decide +kernel)⟩
theorem qd_X9_whose : x_in (.code yX9_whose cX9_whose 1 (some .int)) := ⟨List.mem_of_getElem? (i := 929) (by decide +kernel), Or.inl (by decide +kernel)⟩
theorem qm_L_117 : x_in (.methodLink RL 117 yX10_whose) := ⟨List.mem_of_getElem? (i := 1620) (by decide +kernel), Or.inl (by decide +kernel)⟩
theorem qi_X10_whose : x_in (.instanceMethod yX10_whose) := ⟨List.mem_of_getElem? (i := 1621) (by decide +kernel), Or.inl (by decide +kernel)⟩
theorem qs_X10_whose : x_in (.selects RX10 yX10_whose yX10_whose) := ⟨List.mem_of_getElem? (i := 1622) (by decide +kernel), Or.inl (by decide +kernel)⟩
theorem qd_X10_whose : x_in (.code yX10_whose cX10_whose 2 (some .int)) := ⟨List.mem_of_getElem? (i := 1623) (by decide +kernel), Or.inl (by decide +kernel)⟩
theorem qm_L_118 : x_in (.methodLink RL 118 yX9_odds) := ⟨List.mem_of_getElem? (i := 934) (by decide +kernel), Or.inl (by decide +kernel)⟩
theorem qi_X9_odds : x_in (.instanceMethod yX9_odds) := ⟨List.mem_of_getElem? (i := 935) (by decide +kernel), Or.inl (by decide +kernel)⟩
theorem qs_X9_odds : x_in (.selects RX9 yX9_odds yX9_odds) := ⟨List.mem_of_getElem? (i := 936) (by decide +kernel), Or.inl (by decide +kernel)⟩
theorem qd_X9_odds : x_in (.code yX9_odds cX9_odds 3 (some .long)) := ⟨List.mem_of_getElem? (i := 937) (by decide +kernel), Or.inl (by decide +kernel)⟩
theorem qm_L_122 : x_in (.methodLink RL 122 yX10_odds) := ⟨List.mem_of_getElem? (i := 1624) (by decide +kernel), Or.inl (by decide +kernel)⟩
theorem qi_X10_odds : x_in (.instanceMethod yX10_odds) := ⟨List.mem_of_getElem? (i := 1625) (by decide +kernel), Or.inl (by decide +kernel)⟩
theorem qs_X10_odds : x_in (.selects RX10 yX10_odds yX10_odds) := ⟨List.mem_of_getElem? (i := 1626) (by decide +kernel), Or.inl (by decide +kernel)⟩
theorem qd_X10_odds : x_in (.code yX10_odds cX10_odds 5 (some .long)) := ⟨List.mem_of_getElem? (i := 1627) (by decide +kernel), Or.inl (by decide +kernel)⟩
theorem qm_L_123 : x_in (.methodLink RL 123 yX9_mean) := ⟨List.mem_of_getElem? (i := 942) (by decide +kernel), Or.inl (by decide +kernel)⟩
theorem qi_X9_mean : x_in (.instanceMethod yX9_mean) := ⟨List.mem_of_getElem? (i := 943) (by decide +kernel), Or.inl (by decide +kernel)⟩
theorem qs_X9_mean : x_in (.selects RX9 yX9_mean yX9_mean) := ⟨List.mem_of_getElem? (i := 944) (by decide +kernel), Or.inl (by decide +kernel)⟩
theorem qd_X9_mean : x_in (.code yX9_mean cX9_mean 3 (some .long)) := ⟨List.mem_of_getElem? (i := 945) (by decide +kernel), Or.inl (by decide +kernel)⟩
theorem qm_L_126 : x_in (.methodLink RL 126 yX10_mean) := ⟨List.mem_of_getElem? (i := 1628) (by decide +kernel), Or.inl (by decide +kernel)⟩
theorem qi_X10_mean : x_in (.instanceMethod yX10_mean) := ⟨List.mem_of_getElem? (i := 1629) (by decide +kernel), Or.inl (by decide +kernel)⟩
theorem qs_X10_mean : x_in (.selects RX10 yX10_mean yX10_mean) := ⟨List.mem_of_getElem? (i := 1630) (by decide +kernel), Or.inl (by decide +kernel)⟩
theorem qd_X10_mean : x_in (.code yX10_mean cX10_mean 5 (some .long)) := ⟨List.mem_of_getElem? (i := 1631) (by decide +kernel), Or.inl (by decide +kernel)⟩
theorem qm_L_127 : x_in (.methodLink RL 127 yX9_plan) := ⟨List.mem_of_getElem? (i := 950) (by decide +kernel), Or.inl (by decide +kernel)⟩
theorem qi_X9_plan : x_in (.instanceMethod yX9_plan) := ⟨List.mem_of_getElem? (i := 951) (by decide +kernel), Or.inl (by decide +kernel)⟩
theorem qs_X9_plan : x_in (.selects RX9 yX9_plan yX9_plan) := ⟨List.mem_of_getElem? (i := 952) (by decide +kernel), Or.inl (by decide +kernel)⟩
theorem qd_X9_plan : x_in (.code yX9_plan cX9_plan 3 (some .int)) := ⟨List.mem_of_getElem? (i := 953) (by decide +kernel), Or.inl (by decide +kernel)⟩
theorem qm_L_130 : x_in (.methodLink RL 130 yX10_plan) := ⟨List.mem_of_getElem? (i := 1632) (by decide +kernel), Or.inl (by decide +kernel)⟩
theorem qi_X10_plan : x_in (.instanceMethod yX10_plan) := ⟨List.mem_of_getElem? (i := 1633) (by decide +kernel), Or.inl (by decide +kernel)⟩
theorem qs_X10_plan : x_in (.selects RX10 yX10_plan yX10_plan) := ⟨List.mem_of_getElem? (i := 1634) (by decide +kernel), Or.inl (by decide +kernel)⟩
theorem qd_X10_plan : x_in (.code yX10_plan cX10_plan 3 (some .int)) := ⟨List.mem_of_getElem? (i := 1635) (by decide +kernel), Or.inl (by decide +kernel)⟩
theorem qm_L_131 : x_in (.methodLink RL 131 yX9_planned) := ⟨List.mem_of_getElem? (i := 954) (by decide +kernel), Or.inl (by decide +kernel)⟩
theorem qi_X9_planned : x_in (.instanceMethod yX9_planned) := ⟨List.mem_of_getElem? (i := 955) (by decide +kernel), Or.inl (by decide +kernel)⟩
theorem qs_X9_planned : x_in (.selects RX9 yX9_planned yX9_planned) := ⟨List.mem_of_getElem? (i := 956) (by decide +kernel), Or.inl (by decide +kernel)⟩
theorem qd_X9_planned : x_in (.code yX9_planned cX9_planned 3 (some .int)) := ⟨List.mem_of_getElem? (i := 957) (by decide +kernel), Or.inl (by decide +kernel)⟩
theorem qm_L_134 : x_in (.methodLink RL 134 yX10_planned) := ⟨List.mem_of_getElem? (i := 1636) (by decide +kernel), Or.inl (by decide +kernel)⟩
theorem qi_X10_planned : x_in (.instanceMethod yX10_planned) := ⟨List.mem_of_getElem? (i := 1637) (by decide +kernel), Or.inl (by decide +kernel)⟩
theorem qs_X10_planned : x_in (.selects RX10 yX10_planned yX10_planned) := ⟨List.mem_of_getElem? (i := 1638) (by decide +kernel), Or.inl (by decide +kernel)⟩
theorem qd_X10_planned : x_in (.code yX10_planned cX10_planned 3 (some .int)) := ⟨List.mem_of_getElem? (i := 1639) (by decide +kernel), Or.inl (by decide +kernel)⟩
theorem qm_L_135 : x_in (.methodLink RL 135 yX9_book) := ⟨List.mem_of_getElem? (i := 962) (by decide +kernel), Or.inl (by decide +kernel)⟩
theorem qi_X9_book : x_in (.instanceMethod yX9_book) := ⟨List.mem_of_getElem? (i := 963) (by decide +kernel), Or.inl (by decide +kernel)⟩
theorem qs_X9_book : x_in (.selects RX9 yX9_book yX9_book) := ⟨List.mem_of_getElem? (i := 964) (by decide +kernel), Or.inl (by decide +kernel)⟩
theorem qd_X9_book : x_in (.code yX9_book cX9_book 3 (some .int)) := ⟨List.mem_of_getElem? (i := 965) (by decide +kernel), Or.inl (by decide +kernel)⟩
theorem qm_L_138 : x_in (.methodLink RL 138 yX10_book) := ⟨List.mem_of_getElem? (i := 1640) (by decide +kernel), Or.inl (by decide +kernel)⟩
theorem qi_X10_book : x_in (.instanceMethod yX10_book) := ⟨List.mem_of_getElem? (i := 1641) (by decide +kernel), Or.inl (by decide +kernel)⟩
theorem qs_X10_book : x_in (.selects RX10 yX10_book yX10_book) := ⟨List.mem_of_getElem? (i := 1642) (by decide +kernel), Or.inl (by decide +kernel)⟩
theorem qd_X10_book : x_in (.code yX10_book cX10_book 3 (some .int)) := ⟨List.mem_of_getElem? (i := 1643) (by decide +kernel), Or.inl (by decide +kernel)⟩
theorem qm_L_139 : x_in (.methodLink RL 139 yX9_looked) := ⟨List.mem_of_getElem? (i := 966) (by decide +kernel), Or.inl (by decide +kernel)⟩
theorem qi_X9_looked : x_in (.instanceMethod yX9_looked) := ⟨List.mem_of_getElem? (i := 967) (by decide +kernel), Or.inl (by decide +kernel)⟩
theorem qs_X9_looked : x_in (.selects RX9 yX9_looked yX9_looked) := ⟨List.mem_of_getElem? (i := 968) (by decide +kernel), Or.inl (by decide +kernel)⟩
theorem qd_X9_looked : x_in (.code yX9_looked cX9_looked 2 (some .int)) := ⟨List.mem_of_getElem? (i := 969) (by decide +kernel), Or.inl (by decide +kernel)⟩
theorem qm_L_142 : x_in (.methodLink RL 142 yX10_looked) := ⟨List.mem_of_getElem? (i := 1644) (by decide +kernel), Or.inl (by decide +kernel)⟩
theorem qi_X10_looked : x_in (.instanceMethod yX10_looked) := ⟨List.mem_of_getElem? (i := 1645) (by decide +kernel), Or.inl (by decide +kernel)⟩
theorem qs_X10_looked : x_in (.selects RX10 yX10_looked yX10_looked) := ⟨List.mem_of_getElem? (i := 1646) (by decide +kernel), Or.inl (by decide +kernel)⟩
theorem qd_X10_looked : x_in (.code yX10_looked cX10_looked 2 (some .int)) := ⟨List.mem_of_getElem? (i := 1647) (by decide +kernel), Or.inl (by decide +kernel)⟩
theorem qm_L_143 : x_in (.methodLink RL 143 yX9_judge) := ⟨List.mem_of_getElem? (i := 973) (by decide +kernel), Or.inl (by decide +kernel)⟩
theorem qi_X9_judge : x_in (.instanceMethod yX9_judge) := ⟨List.mem_of_getElem? (i := 974) (by decide +kernel), Or.inl (by decide +kernel)⟩
theorem qs_X9_judge : x_in (.selects RX9 yX9_judge yX9_judge) := ⟨List.mem_of_getElem? (i := 975) (by decide +kernel), Or.inl (by decide +kernel)⟩
theorem qd_X9_judge : x_in (.code yX9_judge cX9_judge 5 (some .int)) := ⟨List.mem_of_getElem? (i := 976) (by decide +kernel), Or.inl (by decide +kernel)⟩
theorem qm_L_146 : x_in (.methodLink RL 146 yX10_judge) := ⟨List.mem_of_getElem? (i := 1648) (by decide +kernel), Or.inl (by decide +kernel)⟩
theorem qi_X10_judge : x_in (.instanceMethod yX10_judge) := ⟨List.mem_of_getElem? (i := 1649) (by decide +kernel), Or.inl (by decide +kernel)⟩
theorem qs_X10_judge : x_in (.selects RX10 yX10_judge yX10_judge) := ⟨List.mem_of_getElem? (i := 1650) (by decide +kernel), Or.inl (by decide +kernel)⟩
theorem qd_X10_judge : x_in (.code yX10_judge cX10_judge 4 (some .int)) := ⟨List.mem_of_getElem? (i := 1651) (by decide +kernel), Or.inl (by decide +kernel)⟩
theorem qm_L_147 : x_in (.methodLink RL 147 yX9_image) := ⟨List.mem_of_getElem? (i := 990) (by decide +kernel), Or.inl (by decide +kernel)⟩
theorem qi_X9_image : x_in (.instanceMethod yX9_image) := ⟨List.mem_of_getElem? (i := 991) (by decide +kernel), Or.inl (by decide +kernel)⟩
theorem qs_X9_image : x_in (.selects RX9 yX9_image yX9_image) := ⟨List.mem_of_getElem? (i := 992) (by decide +kernel), Or.inl (by decide +kernel)⟩
theorem qd_X9_image : x_in (.code yX9_image cX9_image 1 (some .int)) := ⟨List.mem_of_getElem? (i := 993) (by decide +kernel), Or.inl (by decide +kernel)⟩
theorem qm_L_150 : x_in (.methodLink RL 150 yX10_image) := ⟨List.mem_of_getElem? (i := 1656) (by decide +kernel), Or.inl (by decide +kernel)⟩
theorem qi_X10_image : x_in (.instanceMethod yX10_image) := ⟨List.mem_of_getElem? (i := 1657) (by decide +kernel), Or.inl (by decide +kernel)⟩
theorem qs_X10_image : x_in (.selects RX10 yX10_image yX10_image) := ⟨List.mem_of_getElem? (i := 1658) (by decide +kernel), Or.inl (by decide +kernel)⟩
theorem qd_X10_image : x_in (.code yX10_image cX10_image 2 (some .int)) := ⟨List.mem_of_getElem? (i := 1659) (by decide +kernel), Or.inl (by decide +kernel)⟩
theorem qm_L_151 : x_in (.methodLink RL 151 yX9_undo) := ⟨List.mem_of_getElem? (i := 995) (by decide +kernel), Or.inl (by decide +kernel)⟩
theorem qi_X9_undo : x_in (.instanceMethod yX9_undo) := ⟨List.mem_of_getElem? (i := 996) (by decide +kernel), Or.inl (by decide +kernel)⟩
theorem qs_X9_undo : x_in (.selects RX9 yX9_undo yX9_undo) := ⟨List.mem_of_getElem? (i := 997) (by decide +kernel), Or.inl (by decide +kernel)⟩
theorem qd_X9_undo : x_in (.code yX9_undo cX9_undo 1 (some .int)) := ⟨List.mem_of_getElem? (i := 998) (by decide +kernel), Or.inl (by decide +kernel)⟩
theorem qm_L_154 : x_in (.methodLink RL 154 yX10_undo) := ⟨List.mem_of_getElem? (i := 1660) (by decide +kernel), Or.inl (by decide +kernel)⟩
theorem qi_X10_undo : x_in (.instanceMethod yX10_undo) := ⟨List.mem_of_getElem? (i := 1661) (by decide +kernel), Or.inl (by decide +kernel)⟩
theorem qs_X10_undo : x_in (.selects RX10 yX10_undo yX10_undo) := ⟨List.mem_of_getElem? (i := 1662) (by decide +kernel), Or.inl (by decide +kernel)⟩
theorem qd_X10_undo : x_in (.code yX10_undo cX10_undo 2 (some .int)) := ⟨List.mem_of_getElem? (i := 1663) (by decide +kernel), Or.inl (by decide +kernel)⟩
theorem qm_L_155 : x_in (.methodLink RL 155 yX9_act) := ⟨List.mem_of_getElem? (i := 999) (by decide +kernel), Or.inl (by decide +kernel)⟩
theorem qi_X9_act : x_in (.instanceMethod yX9_act) := ⟨List.mem_of_getElem? (i := 1000) (by decide +kernel), Or.inl (by decide +kernel)⟩
theorem qs_X9_act : x_in (.selects RX9 yX9_act yX9_act) := ⟨List.mem_of_getElem? (i := 1001) (by decide +kernel), Or.inl (by decide +kernel)⟩
theorem qd_X9_act : x_in (.code yX9_act cX9_act 4 (some .int)) := ⟨List.mem_of_getElem? (i := 1002) (by decide +kernel), Or.inl (by decide +kernel)⟩
theorem qm_L_158 : x_in (.methodLink RL 158 yX10_act) := ⟨List.mem_of_getElem? (i := 1664) (by decide +kernel), Or.inl (by decide +kernel)⟩
theorem qi_X10_act : x_in (.instanceMethod yX10_act) := ⟨List.mem_of_getElem? (i := 1665) (by decide +kernel), Or.inl (by decide +kernel)⟩
theorem qs_X10_act : x_in (.selects RX10 yX10_act yX10_act) := ⟨List.mem_of_getElem? (i := 1666) (by decide +kernel), Or.inl (by decide +kernel)⟩
theorem qd_X10_act : x_in (.code yX10_act cX10_act 4 (some .int)) := ⟨List.mem_of_getElem? (i := 1667) (by decide +kernel), Or.inl (by decide +kernel)⟩
theorem qm_L_159 : x_in (.methodLink RL 159 yX9_trace) := ⟨List.mem_of_getElem? (i := 1032) (by decide +kernel), Or.inl (by decide +kernel)⟩
theorem qi_X9_trace : x_in (.instanceMethod yX9_trace) := ⟨List.mem_of_getElem? (i := 1033) (by decide +kernel), Or.inl (by decide +kernel)⟩
theorem qs_X9_trace : x_in (.selects RX9 yX9_trace yX9_trace) := ⟨List.mem_of_getElem? (i := 1034) (by decide +kernel), Or.inl (by decide +kernel)⟩
theorem qd_X9_trace : x_in (.code yX9_trace cX9_trace 2 (some .int)) := ⟨List.mem_of_getElem? (i := 1035) (by decide +kernel), Or.inl (by decide +kernel)⟩
theorem qm_L_162 : x_in (.methodLink RL 162 yX10_trace) := ⟨List.mem_of_getElem? (i := 1700) (by decide +kernel), Or.inl (by decide +kernel)⟩
theorem qi_X10_trace : x_in (.instanceMethod yX10_trace) := ⟨List.mem_of_getElem? (i := 1701) (by decide +kernel), Or.inl (by decide +kernel)⟩
theorem qs_X10_trace : x_in (.selects RX10 yX10_trace yX10_trace) := ⟨List.mem_of_getElem? (i := 1702) (by decide +kernel), Or.inl (by decide +kernel)⟩
theorem qd_X10_trace : x_in (.code yX10_trace cX10_trace 2 (some .int)) := ⟨List.mem_of_getElem? (i := 1703) (by decide +kernel), Or.inl (by decide +kernel)⟩
theorem qm_L_163 : x_in (.methodLink RL 163 yX9_taken) := ⟨List.mem_of_getElem? (i := 1040) (by decide +kernel), Or.inl (by decide +kernel)⟩
theorem qi_X9_taken : x_in (.instanceMethod yX9_taken) := ⟨List.mem_of_getElem? (i := 1041) (by decide +kernel), Or.inl (by decide +kernel)⟩
theorem qs_X9_taken : x_in (.selects RX9 yX9_taken yX9_taken) := ⟨List.mem_of_getElem? (i := 1042) (by decide +kernel), Or.inl (by decide +kernel)⟩
theorem qd_X9_taken : x_in (.code yX9_taken cX9_taken 4 (some .int)) := ⟨List.mem_of_getElem? (i := 1043) (by decide +kernel), Or.inl (by decide +kernel)⟩
theorem qm_L_166 : x_in (.methodLink RL 166 yX10_taken) := ⟨List.mem_of_getElem? (i := 1704) (by decide +kernel), Or.inl (by decide +kernel)⟩
theorem qi_X10_taken : x_in (.instanceMethod yX10_taken) := ⟨List.mem_of_getElem? (i := 1705) (by decide +kernel), Or.inl (by decide +kernel)⟩
theorem qs_X10_taken : x_in (.selects RX10 yX10_taken yX10_taken) := ⟨List.mem_of_getElem? (i := 1706) (by decide +kernel), Or.inl (by decide +kernel)⟩
theorem qd_X10_taken : x_in (.code yX10_taken cX10_taken 4 (some .int)) := ⟨List.mem_of_getElem? (i := 1707) (by decide +kernel), Or.inl (by decide +kernel)⟩
theorem qm_L_167 : x_in (.methodLink RL 167 yX9_count) := ⟨List.mem_of_getElem? (i := 1048) (by decide +kernel), Or.inl (by decide +kernel)⟩
theorem qi_X9_count : x_in (.instanceMethod yX9_count) := ⟨List.mem_of_getElem? (i := 1049) (by decide +kernel), Or.inl (by decide +kernel)⟩
theorem qs_X9_count : x_in (.selects RX9 yX9_count yX9_count) := ⟨List.mem_of_getElem? (i := 1050) (by decide +kernel), Or.inl (by decide +kernel)⟩
theorem qd_X9_count : x_in (.code yX9_count cX9_count 2 (some .int)) := ⟨List.mem_of_getElem? (i := 1051) (by decide +kernel), Or.inl (by decide +kernel)⟩
theorem qm_L_170 : x_in (.methodLink RL 170 yX10_count) := ⟨List.mem_of_getElem? (i := 1708) (by decide +kernel), Or.inl (by decide +kernel)⟩
theorem qi_X10_count : x_in (.instanceMethod yX10_count) := ⟨List.mem_of_getElem? (i := 1709) (by decide +kernel), Or.inl (by decide +kernel)⟩
theorem qs_X10_count : x_in (.selects RX10 yX10_count yX10_count) := ⟨List.mem_of_getElem? (i := 1710) (by decide +kernel), Or.inl (by decide +kernel)⟩
theorem qd_X10_count : x_in (.code yX10_count cX10_count 2 (some .int)) := ⟨List.mem_of_getElem? (i := 1711) (by decide +kernel), Or.inl (by decide +kernel)⟩
theorem qm_L_171 : x_in (.methodLink RL 171 yX9_tape) := ⟨List.mem_of_getElem? (i := 1060) (by decide +kernel), Or.inl (by decide +kernel)⟩
theorem qi_X9_tape : x_in (.instanceMethod yX9_tape) := ⟨List.mem_of_getElem? (i := 1061) (by decide +kernel), Or.inl (by decide +kernel)⟩
theorem qs_X9_tape : x_in (.selects RX9 yX9_tape yX9_tape) := ⟨List.mem_of_getElem? (i := 1062) (by decide +kernel), Or.inl (by decide +kernel)⟩
theorem qd_X9_tape : x_in (.code yX9_tape cX9_tape 5 (some .int)) := ⟨List.mem_of_getElem? (i := 1063) (by decide +kernel), Or.inl (by decide +kernel)⟩
theorem qm_L_174 : x_in (.methodLink RL 174 yX10_tape) := ⟨List.mem_of_getElem? (i := 1712) (by decide +kernel), Or.inl (by decide +kernel)⟩
theorem qi_X10_tape : x_in (.instanceMethod yX10_tape) := ⟨List.mem_of_getElem? (i := 1713) (by decide +kernel), Or.inl (by decide +kernel)⟩
theorem qs_X10_tape : x_in (.selects RX10 yX10_tape yX10_tape) := ⟨List.mem_of_getElem? (i := 1714) (by decide +kernel), Or.inl (by decide +kernel)⟩
theorem qd_X10_tape : x_in (.code yX10_tape cX10_tape 5 (some .int)) := ⟨List.mem_of_getElem? (i := 1715) (by decide +kernel), Or.inl (by decide +kernel)⟩
theorem qk_L_175 : x_in (.constantLong RL 175 (4294967295)) := ⟨List.mem_of_getElem? (i := 1732) (by decide +kernel), Or.inl (by decide +kernel)⟩
theorem qm_L_177 : x_in (.methodLink RL 177 yX9_item) := ⟨List.mem_of_getElem? (i := 1070) (by decide +kernel), Or.inl (by decide +kernel)⟩
theorem qi_X9_item : x_in (.instanceMethod yX9_item) := ⟨List.mem_of_getElem? (i := 1071) (by decide +kernel), Or.inl (by decide +kernel)⟩
theorem qs_X9_item : x_in (.selects RX9 yX9_item yX9_item) := ⟨List.mem_of_getElem? (i := 1072) (by decide +kernel), Or.inl (by decide +kernel)⟩
theorem qd_X9_item : x_in (.code yX9_item cX9_item 6 (some .int)) := ⟨List.mem_of_getElem? (i := 1073) (by decide +kernel), Or.inl (by decide +kernel)⟩
theorem qm_L_181 : x_in (.methodLink RL 181 yX10_item) := ⟨List.mem_of_getElem? (i := 1716) (by decide +kernel), Or.inl (by decide +kernel)⟩
theorem qi_X10_item : x_in (.instanceMethod yX10_item) := ⟨List.mem_of_getElem? (i := 1717) (by decide +kernel), Or.inl (by decide +kernel)⟩
theorem qs_X10_item : x_in (.selects RX10 yX10_item yX10_item) := ⟨List.mem_of_getElem? (i := 1718) (by decide +kernel), Or.inl (by decide +kernel)⟩
theorem qd_X10_item : x_in (.code yX10_item cX10_item 5 (some .int)) := ⟨List.mem_of_getElem? (i := 1719) (by decide +kernel), Or.inl (by decide +kernel)⟩
theorem qm_L_182 : x_in (.methodLink RL 182 yX9_read) := ⟨List.mem_of_getElem? (i := 1082) (by decide +kernel), Or.inl (by decide +kernel)⟩
theorem qi_X9_read : x_in (.instanceMethod yX9_read) := ⟨List.mem_of_getElem? (i := 1083) (by decide +kernel), Or.inl (by decide +kernel)⟩
theorem qs_X9_read : x_in (.selects RX9 yX9_read yX9_read) := ⟨List.mem_of_getElem? (i := 1084) (by decide +kernel), Or.inl (by decide +kernel)⟩
theorem qd_X9_read : x_in (.code yX9_read cX9_read 4 (some .long)) := ⟨List.mem_of_getElem? (i := 1085) (by decide +kernel), Or.inl (by decide +kernel)⟩
theorem qm_L_185 : x_in (.methodLink RL 185 yX10_read) := ⟨List.mem_of_getElem? (i := 1724) (by decide +kernel), Or.inl (by decide +kernel)⟩
theorem qi_X10_read : x_in (.instanceMethod yX10_read) := ⟨List.mem_of_getElem? (i := 1725) (by decide +kernel), Or.inl (by decide +kernel)⟩
theorem qs_X10_read : x_in (.selects RX10 yX10_read yX10_read) := ⟨List.mem_of_getElem? (i := 1726) (by decide +kernel), Or.inl (by decide +kernel)⟩
theorem qd_X10_read : x_in (.code yX10_read cX10_read 3 (some .long)) := ⟨List.mem_of_getElem? (i := 1727) (by decide +kernel), Or.inl (by decide +kernel)⟩
theorem qm_L_186 : x_in (.methodLink RL 186 yX9_shift) := ⟨List.mem_of_getElem? (i := 1086) (by decide +kernel), Or.inl (by decide +kernel)⟩
theorem qi_X9_shift : x_in (.instanceMethod yX9_shift) := ⟨List.mem_of_getElem? (i := 1087) (by decide +kernel), Or.inl (by decide +kernel)⟩
theorem qs_X9_shift : x_in (.selects RX9 yX9_shift yX9_shift) := ⟨List.mem_of_getElem? (i := 1088) (by decide +kernel), Or.inl (by decide +kernel)⟩
theorem qd_X9_shift : x_in (.code yX9_shift cX9_shift 8 (some .int)) := ⟨List.mem_of_getElem? (i := 1089) (by decide +kernel), Or.inl (by decide +kernel)⟩
theorem qm_L_190 : x_in (.methodLink RL 190 yX10_shift) := ⟨List.mem_of_getElem? (i := 1728) (by decide +kernel), Or.inl (by decide +kernel)⟩
theorem qi_X10_shift : x_in (.instanceMethod yX10_shift) := ⟨List.mem_of_getElem? (i := 1729) (by decide +kernel), Or.inl (by decide +kernel)⟩
theorem qs_X10_shift : x_in (.selects RX10 yX10_shift yX10_shift) := ⟨List.mem_of_getElem? (i := 1730) (by decide +kernel), Or.inl (by decide +kernel)⟩
theorem qd_X10_shift : x_in (.code yX10_shift cX10_shift 7 (some .int)) := ⟨List.mem_of_getElem? (i := 1731) (by decide +kernel), Or.inl (by decide +kernel)⟩
theorem qh_X9_area : yX9_area.cls ≠ "java/lang/invoke/MethodHandle" ∧ yX9_area.cls ≠ "java/lang/invoke/VarHandle" ∧ (parseMethodDescriptor yX9_area.desc).map (fun d => d.parameters.length) = some 2 := by decide +kernel
theorem qh_X10_area : yX10_area.cls ≠ "java/lang/invoke/MethodHandle" ∧ yX10_area.cls ≠ "java/lang/invoke/VarHandle" ∧ (parseMethodDescriptor yX10_area.desc).map (fun d => d.parameters.length) = some 2 := by decide +kernel
theorem qh_X9_volume : yX9_volume.cls ≠ "java/lang/invoke/MethodHandle" ∧ yX9_volume.cls ≠ "java/lang/invoke/VarHandle" ∧ (parseMethodDescriptor yX9_volume.desc).map (fun d => d.parameters.length) = some 1 := by decide +kernel
theorem qh_X10_volume : yX10_volume.cls ≠ "java/lang/invoke/MethodHandle" ∧ yX10_volume.cls ≠ "java/lang/invoke/VarHandle" ∧ (parseMethodDescriptor yX10_volume.desc).map (fun d => d.parameters.length) = some 1 := by decide +kernel
theorem qh_X9_account : yX9_account.cls ≠ "java/lang/invoke/MethodHandle" ∧ yX9_account.cls ≠ "java/lang/invoke/VarHandle" ∧ (parseMethodDescriptor yX9_account.desc).map (fun d => d.parameters.length) = some 3 := by decide +kernel
theorem qh_X10_account : yX10_account.cls ≠ "java/lang/invoke/MethodHandle" ∧ yX10_account.cls ≠ "java/lang/invoke/VarHandle" ∧ (parseMethodDescriptor yX10_account.desc).map (fun d => d.parameters.length) = some 3 := by decide +kernel
theorem qh_X9_of : yX9_of.cls ≠ "java/lang/invoke/MethodHandle" ∧ yX9_of.cls ≠ "java/lang/invoke/VarHandle" ∧ (parseMethodDescriptor yX9_of.desc).map (fun d => d.parameters.length) = some 2 := by decide +kernel
theorem qh_X10_of : yX10_of.cls ≠ "java/lang/invoke/MethodHandle" ∧ yX10_of.cls ≠ "java/lang/invoke/VarHandle" ∧ (parseMethodDescriptor yX10_of.desc).map (fun d => d.parameters.length) = some 2 := by decide +kernel
theorem qh_X9_set : yX9_set.cls ≠ "java/lang/invoke/MethodHandle" ∧ yX9_set.cls ≠ "java/lang/invoke/VarHandle" ∧ (parseMethodDescriptor yX9_set.desc).map (fun d => d.parameters.length) = some 3 := by decide +kernel
theorem qh_X10_set : yX10_set.cls ≠ "java/lang/invoke/MethodHandle" ∧ yX10_set.cls ≠ "java/lang/invoke/VarHandle" ∧ (parseMethodDescriptor yX10_set.desc).map (fun d => d.parameters.length) = some 3 := by decide +kernel
theorem qh_X9_row : yX9_row.cls ≠ "java/lang/invoke/MethodHandle" ∧ yX9_row.cls ≠ "java/lang/invoke/VarHandle" ∧ (parseMethodDescriptor yX9_row.desc).map (fun d => d.parameters.length) = some 3 := by decide +kernel
theorem qh_X10_row : yX10_row.cls ≠ "java/lang/invoke/MethodHandle" ∧ yX10_row.cls ≠ "java/lang/invoke/VarHandle" ∧ (parseMethodDescriptor yX10_row.desc).map (fun d => d.parameters.length) = some 3 := by decide +kernel
theorem qh_X9_water : yX9_water.cls ≠ "java/lang/invoke/MethodHandle" ∧ yX9_water.cls ≠ "java/lang/invoke/VarHandle" ∧ (parseMethodDescriptor yX9_water.desc).map (fun d => d.parameters.length) = some 1 := by decide +kernel
theorem qh_X10_water : yX10_water.cls ≠ "java/lang/invoke/MethodHandle" ∧ yX10_water.cls ≠ "java/lang/invoke/VarHandle" ∧ (parseMethodDescriptor yX10_water.desc).map (fun d => d.parameters.length) = some 1 := by decide +kernel
theorem qh_X9_feed : yX9_feed.cls ≠ "java/lang/invoke/MethodHandle" ∧ yX9_feed.cls ≠ "java/lang/invoke/VarHandle" ∧ (parseMethodDescriptor yX9_feed.desc).map (fun d => d.parameters.length) = some 1 := by decide +kernel
theorem qh_X10_feed : yX10_feed.cls ≠ "java/lang/invoke/MethodHandle" ∧ yX10_feed.cls ≠ "java/lang/invoke/VarHandle" ∧ (parseMethodDescriptor yX10_feed.desc).map (fun d => d.parameters.length) = some 1 := by decide +kernel
theorem qh_X9_law : yX9_law.cls ≠ "java/lang/invoke/MethodHandle" ∧ yX9_law.cls ≠ "java/lang/invoke/VarHandle" ∧ (parseMethodDescriptor yX9_law.desc).map (fun d => d.parameters.length) = some 0 := by decide +kernel
theorem qh_X10_law : yX10_law.cls ≠ "java/lang/invoke/MethodHandle" ∧ yX10_law.cls ≠ "java/lang/invoke/VarHandle" ∧ (parseMethodDescriptor yX10_law.desc).map (fun d => d.parameters.length) = some 0 := by decide +kernel
theorem qh_X9_told : yX9_told.cls ≠ "java/lang/invoke/MethodHandle" ∧ yX9_told.cls ≠ "java/lang/invoke/VarHandle" ∧ (parseMethodDescriptor yX9_told.desc).map (fun d => d.parameters.length) = some 1 := by decide +kernel
theorem qh_X10_told : yX10_told.cls ≠ "java/lang/invoke/MethodHandle" ∧ yX10_told.cls ≠ "java/lang/invoke/VarHandle" ∧ (parseMethodDescriptor yX10_told.desc).map (fun d => d.parameters.length) = some 1 := by decide +kernel
theorem qh_X9_day : yX9_day.cls ≠ "java/lang/invoke/MethodHandle" ∧ yX9_day.cls ≠ "java/lang/invoke/VarHandle" ∧ (parseMethodDescriptor yX9_day.desc).map (fun d => d.parameters.length) = some 0 := by decide +kernel
theorem qh_X10_day : yX10_day.cls ≠ "java/lang/invoke/MethodHandle" ∧ yX10_day.cls ≠ "java/lang/invoke/VarHandle" ∧ (parseMethodDescriptor yX10_day.desc).map (fun d => d.parameters.length) = some 0 := by decide +kernel
theorem qh_X9_on : yX9_on.cls ≠ "java/lang/invoke/MethodHandle" ∧ yX9_on.cls ≠ "java/lang/invoke/VarHandle" ∧ (parseMethodDescriptor yX9_on.desc).map (fun d => d.parameters.length) = some 2 := by decide +kernel
theorem qh_X10_on : yX10_on.cls ≠ "java/lang/invoke/MethodHandle" ∧ yX10_on.cls ≠ "java/lang/invoke/VarHandle" ∧ (parseMethodDescriptor yX10_on.desc).map (fun d => d.parameters.length) = some 2 := by decide +kernel
theorem qh_X9_dry : yX9_dry.cls ≠ "java/lang/invoke/MethodHandle" ∧ yX9_dry.cls ≠ "java/lang/invoke/VarHandle" ∧ (parseMethodDescriptor yX9_dry.desc).map (fun d => d.parameters.length) = some 0 := by decide +kernel
theorem qh_X10_dry : yX10_dry.cls ≠ "java/lang/invoke/MethodHandle" ∧ yX10_dry.cls ≠ "java/lang/invoke/VarHandle" ∧ (parseMethodDescriptor yX10_dry.desc).map (fun d => d.parameters.length) = some 0 := by decide +kernel
theorem qh_X9_lowest : yX9_lowest.cls ≠ "java/lang/invoke/MethodHandle" ∧ yX9_lowest.cls ≠ "java/lang/invoke/VarHandle" ∧ (parseMethodDescriptor yX9_lowest.desc).map (fun d => d.parameters.length) = some 1 := by decide +kernel
theorem qh_X10_lowest : yX10_lowest.cls ≠ "java/lang/invoke/MethodHandle" ∧ yX10_lowest.cls ≠ "java/lang/invoke/VarHandle" ∧ (parseMethodDescriptor yX10_lowest.desc).map (fun d => d.parameters.length) = some 1 := by decide +kernel
theorem qh_X9_ruined : yX9_ruined.cls ≠ "java/lang/invoke/MethodHandle" ∧ yX9_ruined.cls ≠ "java/lang/invoke/VarHandle" ∧ (parseMethodDescriptor yX9_ruined.desc).map (fun d => d.parameters.length) = some 1 := by decide +kernel
theorem qh_X10_ruined : yX10_ruined.cls ≠ "java/lang/invoke/MethodHandle" ∧ yX10_ruined.cls ≠ "java/lang/invoke/VarHandle" ∧ (parseMethodDescriptor yX10_ruined.desc).map (fun d => d.parameters.length) = some 1 := by decide +kernel
theorem qh_X9_may : yX9_may.cls ≠ "java/lang/invoke/MethodHandle" ∧ yX9_may.cls ≠ "java/lang/invoke/VarHandle" ∧ (parseMethodDescriptor yX9_may.desc).map (fun d => d.parameters.length) = some 2 := by decide +kernel
theorem qh_X10_may : yX10_may.cls ≠ "java/lang/invoke/MethodHandle" ∧ yX10_may.cls ≠ "java/lang/invoke/VarHandle" ∧ (parseMethodDescriptor yX10_may.desc).map (fun d => d.parameters.length) = some 2 := by decide +kernel
theorem qh_X9_enough : yX9_enough.cls ≠ "java/lang/invoke/MethodHandle" ∧ yX9_enough.cls ≠ "java/lang/invoke/VarHandle" ∧ (parseMethodDescriptor yX9_enough.desc).map (fun d => d.parameters.length) = some 2 := by decide +kernel
theorem qh_X10_enough : yX10_enough.cls ≠ "java/lang/invoke/MethodHandle" ∧ yX10_enough.cls ≠ "java/lang/invoke/VarHandle" ∧ (parseMethodDescriptor yX10_enough.desc).map (fun d => d.parameters.length) = some 2 := by decide +kernel
theorem qh_X9_lifted : yX9_lifted.cls ≠ "java/lang/invoke/MethodHandle" ∧ yX9_lifted.cls ≠ "java/lang/invoke/VarHandle" ∧ (parseMethodDescriptor yX9_lifted.desc).map (fun d => d.parameters.length) = some 0 := by decide +kernel
theorem qh_X10_lifted : yX10_lifted.cls ≠ "java/lang/invoke/MethodHandle" ∧ yX10_lifted.cls ≠ "java/lang/invoke/VarHandle" ∧ (parseMethodDescriptor yX10_lifted.desc).map (fun d => d.parameters.length) = some 0 := by decide +kernel
theorem qh_X9_without : yX9_without.cls ≠ "java/lang/invoke/MethodHandle" ∧ yX9_without.cls ≠ "java/lang/invoke/VarHandle" ∧ (parseMethodDescriptor yX9_without.desc).map (fun d => d.parameters.length) = some 2 := by decide +kernel
theorem qh_X10_without : yX10_without.cls ≠ "java/lang/invoke/MethodHandle" ∧ yX10_without.cls ≠ "java/lang/invoke/VarHandle" ∧ (parseMethodDescriptor yX10_without.desc).map (fun d => d.parameters.length) = some 2 := by decide +kernel
theorem qh_X9_wells : yX9_wells.cls ≠ "java/lang/invoke/MethodHandle" ∧ yX9_wells.cls ≠ "java/lang/invoke/VarHandle" ∧ (parseMethodDescriptor yX9_wells.desc).map (fun d => d.parameters.length) = some 1 := by decide +kernel
theorem qh_X10_wells : yX10_wells.cls ≠ "java/lang/invoke/MethodHandle" ∧ yX10_wells.cls ≠ "java/lang/invoke/VarHandle" ∧ (parseMethodDescriptor yX10_wells.desc).map (fun d => d.parameters.length) = some 1 := by decide +kernel
theorem qh_X9_share : yX9_share.cls ≠ "java/lang/invoke/MethodHandle" ∧ yX9_share.cls ≠ "java/lang/invoke/VarHandle" ∧ (parseMethodDescriptor yX9_share.desc).map (fun d => d.parameters.length) = some 3 := by decide +kernel
theorem qh_X10_share : yX10_share.cls ≠ "java/lang/invoke/MethodHandle" ∧ yX10_share.cls ≠ "java/lang/invoke/VarHandle" ∧ (parseMethodDescriptor yX10_share.desc).map (fun d => d.parameters.length) = some 3 := by decide +kernel
theorem qh_X9_richest : yX9_richest.cls ≠ "java/lang/invoke/MethodHandle" ∧ yX9_richest.cls ≠ "java/lang/invoke/VarHandle" ∧ (parseMethodDescriptor yX9_richest.desc).map (fun d => d.parameters.length) = some 1 := by decide +kernel
theorem qh_X10_richest : yX10_richest.cls ≠ "java/lang/invoke/MethodHandle" ∧ yX10_richest.cls ≠ "java/lang/invoke/VarHandle" ∧ (parseMethodDescriptor yX10_richest.desc).map (fun d => d.parameters.length) = some 1 := by decide +kernel
theorem qh_X9_see : yX9_see.cls ≠ "java/lang/invoke/MethodHandle" ∧ yX9_see.cls ≠ "java/lang/invoke/VarHandle" ∧ (parseMethodDescriptor yX9_see.desc).map (fun d => d.parameters.length) = some 2 := by decide +kernel
theorem qh_X10_see : yX10_see.cls ≠ "java/lang/invoke/MethodHandle" ∧ yX10_see.cls ≠ "java/lang/invoke/VarHandle" ∧ (parseMethodDescriptor yX10_see.desc).map (fun d => d.parameters.length) = some 2 := by decide +kernel
theorem qh_X9_hidden : yX9_hidden.cls ≠ "java/lang/invoke/MethodHandle" ∧ yX9_hidden.cls ≠ "java/lang/invoke/VarHandle" ∧ (parseMethodDescriptor yX9_hidden.desc).map (fun d => d.parameters.length) = some 2 := by decide +kernel
theorem qh_X10_hidden : yX10_hidden.cls ≠ "java/lang/invoke/MethodHandle" ∧ yX10_hidden.cls ≠ "java/lang/invoke/VarHandle" ∧ (parseMethodDescriptor yX10_hidden.desc).map (fun d => d.parameters.length) = some 2 := by decide +kernel
theorem qh_X9_whose : yX9_whose.cls ≠ "java/lang/invoke/MethodHandle" ∧ yX9_whose.cls ≠ "java/lang/invoke/VarHandle" ∧ (parseMethodDescriptor yX9_whose.desc).map (fun d => d.parameters.length) = some 0 := by decide +kernel
theorem qh_X10_whose : yX10_whose.cls ≠ "java/lang/invoke/MethodHandle" ∧ yX10_whose.cls ≠ "java/lang/invoke/VarHandle" ∧ (parseMethodDescriptor yX10_whose.desc).map (fun d => d.parameters.length) = some 0 := by decide +kernel
theorem qh_X9_odds : yX9_odds.cls ≠ "java/lang/invoke/MethodHandle" ∧ yX9_odds.cls ≠ "java/lang/invoke/VarHandle" ∧ (parseMethodDescriptor yX9_odds.desc).map (fun d => d.parameters.length) = some 2 := by decide +kernel
theorem qh_X10_odds : yX10_odds.cls ≠ "java/lang/invoke/MethodHandle" ∧ yX10_odds.cls ≠ "java/lang/invoke/VarHandle" ∧ (parseMethodDescriptor yX10_odds.desc).map (fun d => d.parameters.length) = some 2 := by decide +kernel
theorem qh_X9_mean : yX9_mean.cls ≠ "java/lang/invoke/MethodHandle" ∧ yX9_mean.cls ≠ "java/lang/invoke/VarHandle" ∧ (parseMethodDescriptor yX9_mean.desc).map (fun d => d.parameters.length) = some 2 := by decide +kernel
theorem qh_X10_mean : yX10_mean.cls ≠ "java/lang/invoke/MethodHandle" ∧ yX10_mean.cls ≠ "java/lang/invoke/VarHandle" ∧ (parseMethodDescriptor yX10_mean.desc).map (fun d => d.parameters.length) = some 2 := by decide +kernel
theorem qh_X9_plan : yX9_plan.cls ≠ "java/lang/invoke/MethodHandle" ∧ yX9_plan.cls ≠ "java/lang/invoke/VarHandle" ∧ (parseMethodDescriptor yX9_plan.desc).map (fun d => d.parameters.length) = some 2 := by decide +kernel
theorem qh_X10_plan : yX10_plan.cls ≠ "java/lang/invoke/MethodHandle" ∧ yX10_plan.cls ≠ "java/lang/invoke/VarHandle" ∧ (parseMethodDescriptor yX10_plan.desc).map (fun d => d.parameters.length) = some 2 := by decide +kernel
theorem qh_X9_planned : yX9_planned.cls ≠ "java/lang/invoke/MethodHandle" ∧ yX9_planned.cls ≠ "java/lang/invoke/VarHandle" ∧ (parseMethodDescriptor yX9_planned.desc).map (fun d => d.parameters.length) = some 1 := by decide +kernel
theorem qh_X10_planned : yX10_planned.cls ≠ "java/lang/invoke/MethodHandle" ∧ yX10_planned.cls ≠ "java/lang/invoke/VarHandle" ∧ (parseMethodDescriptor yX10_planned.desc).map (fun d => d.parameters.length) = some 1 := by decide +kernel
theorem qh_X9_book : yX9_book.cls ≠ "java/lang/invoke/MethodHandle" ∧ yX9_book.cls ≠ "java/lang/invoke/VarHandle" ∧ (parseMethodDescriptor yX9_book.desc).map (fun d => d.parameters.length) = some 2 := by decide +kernel
theorem qh_X10_book : yX10_book.cls ≠ "java/lang/invoke/MethodHandle" ∧ yX10_book.cls ≠ "java/lang/invoke/VarHandle" ∧ (parseMethodDescriptor yX10_book.desc).map (fun d => d.parameters.length) = some 2 := by decide +kernel
theorem qh_X9_looked : yX9_looked.cls ≠ "java/lang/invoke/MethodHandle" ∧ yX9_looked.cls ≠ "java/lang/invoke/VarHandle" ∧ (parseMethodDescriptor yX9_looked.desc).map (fun d => d.parameters.length) = some 0 := by decide +kernel
theorem qh_X10_looked : yX10_looked.cls ≠ "java/lang/invoke/MethodHandle" ∧ yX10_looked.cls ≠ "java/lang/invoke/VarHandle" ∧ (parseMethodDescriptor yX10_looked.desc).map (fun d => d.parameters.length) = some 0 := by decide +kernel
theorem qh_X9_judge : yX9_judge.cls ≠ "java/lang/invoke/MethodHandle" ∧ yX9_judge.cls ≠ "java/lang/invoke/VarHandle" ∧ (parseMethodDescriptor yX9_judge.desc).map (fun d => d.parameters.length) = some 2 := by decide +kernel
theorem qh_X10_judge : yX10_judge.cls ≠ "java/lang/invoke/MethodHandle" ∧ yX10_judge.cls ≠ "java/lang/invoke/VarHandle" ∧ (parseMethodDescriptor yX10_judge.desc).map (fun d => d.parameters.length) = some 2 := by decide +kernel
theorem qh_X9_image : yX9_image.cls ≠ "java/lang/invoke/MethodHandle" ∧ yX9_image.cls ≠ "java/lang/invoke/VarHandle" ∧ (parseMethodDescriptor yX9_image.desc).map (fun d => d.parameters.length) = some 0 := by decide +kernel
theorem qh_X10_image : yX10_image.cls ≠ "java/lang/invoke/MethodHandle" ∧ yX10_image.cls ≠ "java/lang/invoke/VarHandle" ∧ (parseMethodDescriptor yX10_image.desc).map (fun d => d.parameters.length) = some 0 := by decide +kernel
theorem qh_X9_undo : yX9_undo.cls ≠ "java/lang/invoke/MethodHandle" ∧ yX9_undo.cls ≠ "java/lang/invoke/VarHandle" ∧ (parseMethodDescriptor yX9_undo.desc).map (fun d => d.parameters.length) = some 0 := by decide +kernel
theorem qh_X10_undo : yX10_undo.cls ≠ "java/lang/invoke/MethodHandle" ∧ yX10_undo.cls ≠ "java/lang/invoke/VarHandle" ∧ (parseMethodDescriptor yX10_undo.desc).map (fun d => d.parameters.length) = some 0 := by decide +kernel
theorem qh_X9_act : yX9_act.cls ≠ "java/lang/invoke/MethodHandle" ∧ yX9_act.cls ≠ "java/lang/invoke/VarHandle" ∧ (parseMethodDescriptor yX9_act.desc).map (fun d => d.parameters.length) = some 3 := by decide +kernel
theorem qh_X10_act : yX10_act.cls ≠ "java/lang/invoke/MethodHandle" ∧ yX10_act.cls ≠ "java/lang/invoke/VarHandle" ∧ (parseMethodDescriptor yX10_act.desc).map (fun d => d.parameters.length) = some 3 := by decide +kernel
theorem qh_X9_trace : yX9_trace.cls ≠ "java/lang/invoke/MethodHandle" ∧ yX9_trace.cls ≠ "java/lang/invoke/VarHandle" ∧ (parseMethodDescriptor yX9_trace.desc).map (fun d => d.parameters.length) = some 1 := by decide +kernel
theorem qh_X10_trace : yX10_trace.cls ≠ "java/lang/invoke/MethodHandle" ∧ yX10_trace.cls ≠ "java/lang/invoke/VarHandle" ∧ (parseMethodDescriptor yX10_trace.desc).map (fun d => d.parameters.length) = some 1 := by decide +kernel
theorem qh_X9_taken : yX9_taken.cls ≠ "java/lang/invoke/MethodHandle" ∧ yX9_taken.cls ≠ "java/lang/invoke/VarHandle" ∧ (parseMethodDescriptor yX9_taken.desc).map (fun d => d.parameters.length) = some 2 := by decide +kernel
theorem qh_X10_taken : yX10_taken.cls ≠ "java/lang/invoke/MethodHandle" ∧ yX10_taken.cls ≠ "java/lang/invoke/VarHandle" ∧ (parseMethodDescriptor yX10_taken.desc).map (fun d => d.parameters.length) = some 2 := by decide +kernel
theorem qh_X9_count : yX9_count.cls ≠ "java/lang/invoke/MethodHandle" ∧ yX9_count.cls ≠ "java/lang/invoke/VarHandle" ∧ (parseMethodDescriptor yX9_count.desc).map (fun d => d.parameters.length) = some 1 := by decide +kernel
theorem qh_X10_count : yX10_count.cls ≠ "java/lang/invoke/MethodHandle" ∧ yX10_count.cls ≠ "java/lang/invoke/VarHandle" ∧ (parseMethodDescriptor yX10_count.desc).map (fun d => d.parameters.length) = some 1 := by decide +kernel
theorem qh_X9_tape : yX9_tape.cls ≠ "java/lang/invoke/MethodHandle" ∧ yX9_tape.cls ≠ "java/lang/invoke/VarHandle" ∧ (parseMethodDescriptor yX9_tape.desc).map (fun d => d.parameters.length) = some 3 := by decide +kernel
theorem qh_X10_tape : yX10_tape.cls ≠ "java/lang/invoke/MethodHandle" ∧ yX10_tape.cls ≠ "java/lang/invoke/VarHandle" ∧ (parseMethodDescriptor yX10_tape.desc).map (fun d => d.parameters.length) = some 3 := by decide +kernel
theorem qh_X9_item : yX9_item.cls ≠ "java/lang/invoke/MethodHandle" ∧ yX9_item.cls ≠ "java/lang/invoke/VarHandle" ∧ (parseMethodDescriptor yX9_item.desc).map (fun d => d.parameters.length) = some 3 := by decide +kernel
theorem qh_X10_item : yX10_item.cls ≠ "java/lang/invoke/MethodHandle" ∧ yX10_item.cls ≠ "java/lang/invoke/VarHandle" ∧ (parseMethodDescriptor yX10_item.desc).map (fun d => d.parameters.length) = some 3 := by decide +kernel
theorem qh_X9_read : yX9_read.cls ≠ "java/lang/invoke/MethodHandle" ∧ yX9_read.cls ≠ "java/lang/invoke/VarHandle" ∧ (parseMethodDescriptor yX9_read.desc).map (fun d => d.parameters.length) = some 2 := by decide +kernel
theorem qh_X10_read : yX10_read.cls ≠ "java/lang/invoke/MethodHandle" ∧ yX10_read.cls ≠ "java/lang/invoke/VarHandle" ∧ (parseMethodDescriptor yX10_read.desc).map (fun d => d.parameters.length) = some 2 := by decide +kernel
theorem qh_X9_shift : yX9_shift.cls ≠ "java/lang/invoke/MethodHandle" ∧ yX9_shift.cls ≠ "java/lang/invoke/VarHandle" ∧ (parseMethodDescriptor yX9_shift.desc).map (fun d => d.parameters.length) = some 5 := by decide +kernel
theorem qh_X10_shift : yX10_shift.cls ≠ "java/lang/invoke/MethodHandle" ∧ yX10_shift.cls ≠ "java/lang/invoke/VarHandle" ∧ (parseMethodDescriptor yX10_shift.desc).map (fun d => d.parameters.length) = some 5 := by decide +kernel
