theorem dL_law_0 : decode cL_law 0 = .ok (.new 7, 3) := by decide +kernel
theorem dL_law_3 : decode cL_law 3 = .ok (.dup, 1) := by decide +kernel
theorem dL_law_4 : decode cL_law 4 = .ok (.invokespecial 9, 3) := by decide +kernel
theorem dL_law_7 : decode cL_law 7 = .ok (.astore_n 1, 1) := by decide +kernel
theorem dL_law_8 : decode cL_law 8 = .ok (.new 10, 3) := by decide +kernel
theorem dL_law_11 : decode cL_law 11 = .ok (.dup, 1) := by decide +kernel
theorem dL_law_12 : decode cL_law 12 = .ok (.invokespecial 12, 3) := by decide +kernel
theorem dL_law_15 : decode cL_law 15 = .ok (.astore_n 2, 1) := by decide +kernel
theorem dL_law_16 : decode cL_law 16 = .ok (.iconst 0, 1) := by decide +kernel
theorem dL_law_17 : decode cL_law 17 = .ok (.istore_n 3, 1) := by decide +kernel
theorem dL_law_18 : decode cL_law 18 = .ok (.iload_n 3, 1) := by decide +kernel
theorem dL_law_19 : decode cL_law 19 = .ok (.aload_n 0, 1) := by decide +kernel
theorem dL_law_20 : decode cL_law 20 = .ok (.arraylength, 1) := by decide +kernel
theorem dL_law_21 : decode cL_law 21 = .ok (.bipush 7, 2) := by decide +kernel
theorem dL_law_23 : decode cL_law 23 = .ok (.isub, 1) := by decide +kernel
theorem dL_law_24 : decode cL_law 24 = .ok (.if_icmp .gt 1353, 3) := by decide +kernel
theorem dL_law_27 : decode cL_law 27 = .ok (.aload_n 0, 1) := by decide +kernel
theorem dL_law_28 : decode cL_law 28 = .ok (.iload_n 3, 1) := by decide +kernel
theorem dL_law_29 : decode cL_law 29 = .ok (.iaload, 1) := by decide +kernel
theorem dL_law_30 : decode cL_law 30 = .ok (.bipush 63, 2) := by decide +kernel
theorem dL_law_32 : decode cL_law 32 = .ok (.iand, 1) := by decide +kernel
theorem dL_law_33 : decode cL_law 33 = .ok (.tableswitch 1338 0 36 #[163, 186, 199, 222, 245, 288, 311, 344, 367, 410, 443, 506, 581, 634, 687, 750, 825, 848, 881, 924, 947, 970, 983, 1016, 1029, 1052, 1065, 1098, 1121, 1164, 1177, 1210, 1243, 1276, 1289, 1312, 1325], 163) := by decide +kernel
theorem dL_law_196 : decode cL_law 196 = .ok (.aload_n 1, 1) := by decide +kernel
theorem dL_law_197 : decode cL_law 197 = .ok (.aload_n 0, 1) := by decide +kernel
theorem dL_law_198 : decode cL_law 198 = .ok (.iload_n 3, 1) := by decide +kernel
theorem dL_law_199 : decode cL_law 199 = .ok (.iconst 1, 1) := by decide +kernel
theorem dL_law_200 : decode cL_law 200 = .ok (.iadd, 1) := by decide +kernel
theorem dL_law_201 : decode cL_law 201 = .ok (.iaload, 1) := by decide +kernel
theorem dL_law_202 : decode cL_law 202 = .ok (.invokevirtual 13, 3) := by decide +kernel
theorem dL_law_205 : decode cL_law 205 = .ok (.aload_n 2, 1) := by decide +kernel
theorem dL_law_206 : decode cL_law 206 = .ok (.aload_n 0, 1) := by decide +kernel
theorem dL_law_207 : decode cL_law 207 = .ok (.iload_n 3, 1) := by decide +kernel
theorem dL_law_208 : decode cL_law 208 = .ok (.iconst 1, 1) := by decide +kernel
theorem dL_law_209 : decode cL_law 209 = .ok (.iadd, 1) := by decide +kernel
theorem dL_law_210 : decode cL_law 210 = .ok (.iaload, 1) := by decide +kernel
theorem dL_law_211 : decode cL_law 211 = .ok (.invokevirtual 17, 3) := by decide +kernel
theorem dL_law_214 : decode cL_law 214 = .ok (.if_icmp .eq 1157, 3) := by decide +kernel
theorem dL_law_217 : decode cL_law 217 = .ok (.iconst 0, 1) := by decide +kernel
theorem dL_law_218 : decode cL_law 218 = .ok (.ireturn, 1) := by decide +kernel
theorem dL_law_219 : decode cL_law 219 = .ok (.aload_n 1, 1) := by decide +kernel
theorem dL_law_220 : decode cL_law 220 = .ok (.invokevirtual 18, 3) := by decide +kernel
theorem dL_law_223 : decode cL_law 223 = .ok (.aload_n 2, 1) := by decide +kernel
theorem dL_law_224 : decode cL_law 224 = .ok (.invokevirtual 22, 3) := by decide +kernel
theorem dL_law_227 : decode cL_law 227 = .ok (.if_icmp .eq 1144, 3) := by decide +kernel
theorem dL_law_230 : decode cL_law 230 = .ok (.iconst 0, 1) := by decide +kernel
theorem dL_law_231 : decode cL_law 231 = .ok (.ireturn, 1) := by decide +kernel
theorem dL_law_232 : decode cL_law 232 = .ok (.aload_n 1, 1) := by decide +kernel
theorem dL_law_233 : decode cL_law 233 = .ok (.aload_n 0, 1) := by decide +kernel
theorem dL_law_234 : decode cL_law 234 = .ok (.iload_n 3, 1) := by decide +kernel
theorem dL_law_235 : decode cL_law 235 = .ok (.iconst 1, 1) := by decide +kernel
theorem dL_law_236 : decode cL_law 236 = .ok (.iadd, 1) := by decide +kernel
theorem dL_law_237 : decode cL_law 237 = .ok (.iaload, 1) := by decide +kernel
theorem dL_law_238 : decode cL_law 238 = .ok (.invokevirtual 23, 3) := by decide +kernel
theorem dL_law_241 : decode cL_law 241 = .ok (.aload_n 2, 1) := by decide +kernel
theorem dL_law_242 : decode cL_law 242 = .ok (.aload_n 0, 1) := by decide +kernel
theorem dL_law_243 : decode cL_law 243 = .ok (.iload_n 3, 1) := by decide +kernel
theorem dL_law_244 : decode cL_law 244 = .ok (.iconst 1, 1) := by decide +kernel
theorem dL_law_245 : decode cL_law 245 = .ok (.iadd, 1) := by decide +kernel
theorem dL_law_246 : decode cL_law 246 = .ok (.iaload, 1) := by decide +kernel
theorem dL_law_247 : decode cL_law 247 = .ok (.invokevirtual 26, 3) := by decide +kernel
theorem dL_law_250 : decode cL_law 250 = .ok (.if_icmp .eq 1121, 3) := by decide +kernel
theorem dL_law_253 : decode cL_law 253 = .ok (.iconst 0, 1) := by decide +kernel
theorem dL_law_254 : decode cL_law 254 = .ok (.ireturn, 1) := by decide +kernel
theorem dL_law_255 : decode cL_law 255 = .ok (.aload_n 1, 1) := by decide +kernel
theorem dL_law_256 : decode cL_law 256 = .ok (.aload_n 0, 1) := by decide +kernel
theorem dL_law_257 : decode cL_law 257 = .ok (.iload_n 3, 1) := by decide +kernel
theorem dL_law_258 : decode cL_law 258 = .ok (.iconst 1, 1) := by decide +kernel
theorem dL_law_259 : decode cL_law 259 = .ok (.iadd, 1) := by decide +kernel
theorem dL_law_260 : decode cL_law 260 = .ok (.iaload, 1) := by decide +kernel
theorem dL_law_261 : decode cL_law 261 = .ok (.invokevirtual 27, 3) := by decide +kernel
theorem dL_law_264 : decode cL_law 264 = .ok (.aload_n 2, 1) := by decide +kernel
theorem dL_law_265 : decode cL_law 265 = .ok (.aload_n 0, 1) := by decide +kernel
theorem dL_law_266 : decode cL_law 266 = .ok (.iload_n 3, 1) := by decide +kernel
theorem dL_law_267 : decode cL_law 267 = .ok (.iconst 1, 1) := by decide +kernel
theorem dL_law_268 : decode cL_law 268 = .ok (.iadd, 1) := by decide +kernel
theorem dL_law_269 : decode cL_law 269 = .ok (.iaload, 1) := by decide +kernel
theorem dL_law_270 : decode cL_law 270 = .ok (.invokevirtual 30, 3) := by decide +kernel
theorem dL_law_273 : decode cL_law 273 = .ok (.if_icmp .eq 1098, 3) := by decide +kernel
theorem dL_law_276 : decode cL_law 276 = .ok (.iconst 0, 1) := by decide +kernel
theorem dL_law_277 : decode cL_law 277 = .ok (.ireturn, 1) := by decide +kernel
theorem dL_law_278 : decode cL_law 278 = .ok (.aload_n 1, 1) := by decide +kernel
theorem dL_law_279 : decode cL_law 279 = .ok (.aload_n 0, 1) := by decide +kernel
theorem dL_law_280 : decode cL_law 280 = .ok (.iload_n 3, 1) := by decide +kernel
theorem dL_law_281 : decode cL_law 281 = .ok (.iconst 1, 1) := by decide +kernel
theorem dL_law_282 : decode cL_law 282 = .ok (.iadd, 1) := by decide +kernel
theorem dL_law_283 : decode cL_law 283 = .ok (.iaload, 1) := by decide +kernel
theorem dL_law_284 : decode cL_law 284 = .ok (.aload_n 0, 1) := by decide +kernel
theorem dL_law_285 : decode cL_law 285 = .ok (.iload_n 3, 1) := by decide +kernel
theorem dL_law_286 : decode cL_law 286 = .ok (.iconst 2, 1) := by decide +kernel
theorem dL_law_287 : decode cL_law 287 = .ok (.iadd, 1) := by decide +kernel
theorem dL_law_288 : decode cL_law 288 = .ok (.iaload, 1) := by decide +kernel
theorem dL_law_289 : decode cL_law 289 = .ok (.aload_n 0, 1) := by decide +kernel
theorem dL_law_290 : decode cL_law 290 = .ok (.iload_n 3, 1) := by decide +kernel
theorem dL_law_291 : decode cL_law 291 = .ok (.iconst 3, 1) := by decide +kernel
theorem dL_law_292 : decode cL_law 292 = .ok (.iadd, 1) := by decide +kernel
theorem dL_law_293 : decode cL_law 293 = .ok (.iaload, 1) := by decide +kernel
theorem dL_law_294 : decode cL_law 294 = .ok (.invokevirtual 31, 3) := by decide +kernel
theorem dL_law_297 : decode cL_law 297 = .ok (.aload_n 2, 1) := by decide +kernel
theorem dL_law_298 : decode cL_law 298 = .ok (.aload_n 0, 1) := by decide +kernel
theorem dL_law_299 : decode cL_law 299 = .ok (.iload_n 3, 1) := by decide +kernel
theorem dL_law_300 : decode cL_law 300 = .ok (.iconst 1, 1) := by decide +kernel
theorem dL_law_301 : decode cL_law 301 = .ok (.iadd, 1) := by decide +kernel
theorem dL_law_302 : decode cL_law 302 = .ok (.iaload, 1) := by decide +kernel
theorem dL_law_303 : decode cL_law 303 = .ok (.aload_n 0, 1) := by decide +kernel
theorem dL_law_304 : decode cL_law 304 = .ok (.iload_n 3, 1) := by decide +kernel
theorem dL_law_305 : decode cL_law 305 = .ok (.iconst 2, 1) := by decide +kernel
theorem dL_law_306 : decode cL_law 306 = .ok (.iadd, 1) := by decide +kernel
theorem dL_law_307 : decode cL_law 307 = .ok (.iaload, 1) := by decide +kernel
theorem dL_law_308 : decode cL_law 308 = .ok (.aload_n 0, 1) := by decide +kernel
theorem dL_law_309 : decode cL_law 309 = .ok (.iload_n 3, 1) := by decide +kernel
theorem dL_law_310 : decode cL_law 310 = .ok (.iconst 3, 1) := by decide +kernel
theorem dL_law_311 : decode cL_law 311 = .ok (.iadd, 1) := by decide +kernel
theorem dL_law_312 : decode cL_law 312 = .ok (.iaload, 1) := by decide +kernel
theorem dL_law_313 : decode cL_law 313 = .ok (.invokevirtual 35, 3) := by decide +kernel
theorem dL_law_316 : decode cL_law 316 = .ok (.if_icmp .eq 1055, 3) := by decide +kernel
theorem dL_law_319 : decode cL_law 319 = .ok (.iconst 0, 1) := by decide +kernel
theorem dL_law_320 : decode cL_law 320 = .ok (.ireturn, 1) := by decide +kernel
theorem dL_law_321 : decode cL_law 321 = .ok (.aload_n 1, 1) := by decide +kernel
theorem dL_law_322 : decode cL_law 322 = .ok (.aload_n 0, 1) := by decide +kernel
theorem dL_law_323 : decode cL_law 323 = .ok (.iload_n 3, 1) := by decide +kernel
theorem dL_law_324 : decode cL_law 324 = .ok (.iconst 1, 1) := by decide +kernel
theorem dL_law_325 : decode cL_law 325 = .ok (.iadd, 1) := by decide +kernel
theorem dL_law_326 : decode cL_law 326 = .ok (.iaload, 1) := by decide +kernel
theorem dL_law_327 : decode cL_law 327 = .ok (.invokevirtual 36, 3) := by decide +kernel
theorem dL_law_330 : decode cL_law 330 = .ok (.aload_n 2, 1) := by decide +kernel
theorem dL_law_331 : decode cL_law 331 = .ok (.aload_n 0, 1) := by decide +kernel
theorem dL_law_332 : decode cL_law 332 = .ok (.iload_n 3, 1) := by decide +kernel
theorem dL_law_333 : decode cL_law 333 = .ok (.iconst 1, 1) := by decide +kernel
theorem dL_law_334 : decode cL_law 334 = .ok (.iadd, 1) := by decide +kernel
theorem dL_law_335 : decode cL_law 335 = .ok (.iaload, 1) := by decide +kernel
theorem dL_law_336 : decode cL_law 336 = .ok (.invokevirtual 39, 3) := by decide +kernel
theorem dL_law_339 : decode cL_law 339 = .ok (.if_icmp .eq 1032, 3) := by decide +kernel
theorem dL_law_342 : decode cL_law 342 = .ok (.iconst 0, 1) := by decide +kernel
theorem dL_law_343 : decode cL_law 343 = .ok (.ireturn, 1) := by decide +kernel
theorem dL_law_344 : decode cL_law 344 = .ok (.aload_n 1, 1) := by decide +kernel
theorem dL_law_345 : decode cL_law 345 = .ok (.aload_n 0, 1) := by decide +kernel
theorem dL_law_346 : decode cL_law 346 = .ok (.iload_n 3, 1) := by decide +kernel
theorem dL_law_347 : decode cL_law 347 = .ok (.iconst 1, 1) := by decide +kernel
theorem dL_law_348 : decode cL_law 348 = .ok (.iadd, 1) := by decide +kernel
theorem dL_law_349 : decode cL_law 349 = .ok (.iaload, 1) := by decide +kernel
theorem dL_law_350 : decode cL_law 350 = .ok (.aload_n 0, 1) := by decide +kernel
theorem dL_law_351 : decode cL_law 351 = .ok (.iload_n 3, 1) := by decide +kernel
theorem dL_law_352 : decode cL_law 352 = .ok (.iconst 2, 1) := by decide +kernel
theorem dL_law_353 : decode cL_law 353 = .ok (.iadd, 1) := by decide +kernel
theorem dL_law_354 : decode cL_law 354 = .ok (.iaload, 1) := by decide +kernel
theorem dL_law_355 : decode cL_law 355 = .ok (.invokevirtual 40, 3) := by decide +kernel
theorem dL_law_358 : decode cL_law 358 = .ok (.aload_n 2, 1) := by decide +kernel
theorem dL_law_359 : decode cL_law 359 = .ok (.aload_n 0, 1) := by decide +kernel
theorem dL_law_360 : decode cL_law 360 = .ok (.iload_n 3, 1) := by decide +kernel
theorem dL_law_361 : decode cL_law 361 = .ok (.iconst 1, 1) := by decide +kernel
theorem dL_law_362 : decode cL_law 362 = .ok (.iadd, 1) := by decide +kernel
theorem dL_law_363 : decode cL_law 363 = .ok (.iaload, 1) := by decide +kernel
theorem dL_law_364 : decode cL_law 364 = .ok (.aload_n 0, 1) := by decide +kernel
theorem dL_law_365 : decode cL_law 365 = .ok (.iload_n 3, 1) := by decide +kernel
theorem dL_law_366 : decode cL_law 366 = .ok (.iconst 2, 1) := by decide +kernel
theorem dL_law_367 : decode cL_law 367 = .ok (.iadd, 1) := by decide +kernel
theorem dL_law_368 : decode cL_law 368 = .ok (.iaload, 1) := by decide +kernel
theorem dL_law_369 : decode cL_law 369 = .ok (.invokevirtual 44, 3) := by decide +kernel
theorem dL_law_372 : decode cL_law 372 = .ok (.if_icmp .eq 999, 3) := by decide +kernel
theorem dL_law_375 : decode cL_law 375 = .ok (.iconst 0, 1) := by decide +kernel
theorem dL_law_376 : decode cL_law 376 = .ok (.ireturn, 1) := by decide +kernel
theorem dL_law_377 : decode cL_law 377 = .ok (.aload_n 1, 1) := by decide +kernel
theorem dL_law_378 : decode cL_law 378 = .ok (.aload_n 0, 1) := by decide +kernel
theorem dL_law_379 : decode cL_law 379 = .ok (.iload_n 3, 1) := by decide +kernel
theorem dL_law_380 : decode cL_law 380 = .ok (.iconst 1, 1) := by decide +kernel
theorem dL_law_381 : decode cL_law 381 = .ok (.iadd, 1) := by decide +kernel
theorem dL_law_382 : decode cL_law 382 = .ok (.iaload, 1) := by decide +kernel
theorem dL_law_383 : decode cL_law 383 = .ok (.invokevirtual 45, 3) := by decide +kernel
theorem dL_law_386 : decode cL_law 386 = .ok (.aload_n 2, 1) := by decide +kernel
theorem dL_law_387 : decode cL_law 387 = .ok (.aload_n 0, 1) := by decide +kernel
theorem dL_law_388 : decode cL_law 388 = .ok (.iload_n 3, 1) := by decide +kernel
theorem dL_law_389 : decode cL_law 389 = .ok (.iconst 1, 1) := by decide +kernel
theorem dL_law_390 : decode cL_law 390 = .ok (.iadd, 1) := by decide +kernel
theorem dL_law_391 : decode cL_law 391 = .ok (.iaload, 1) := by decide +kernel
theorem dL_law_392 : decode cL_law 392 = .ok (.invokevirtual 48, 3) := by decide +kernel
theorem dL_law_395 : decode cL_law 395 = .ok (.if_icmp .eq 976, 3) := by decide +kernel
theorem dL_law_398 : decode cL_law 398 = .ok (.iconst 0, 1) := by decide +kernel
theorem dL_law_399 : decode cL_law 399 = .ok (.ireturn, 1) := by decide +kernel
theorem dL_law_400 : decode cL_law 400 = .ok (.aload_n 1, 1) := by decide +kernel
theorem dL_law_401 : decode cL_law 401 = .ok (.aload_n 0, 1) := by decide +kernel
theorem dL_law_402 : decode cL_law 402 = .ok (.iload_n 3, 1) := by decide +kernel
theorem dL_law_403 : decode cL_law 403 = .ok (.iconst 1, 1) := by decide +kernel
theorem dL_law_404 : decode cL_law 404 = .ok (.iadd, 1) := by decide +kernel
theorem dL_law_405 : decode cL_law 405 = .ok (.iaload, 1) := by decide +kernel
theorem dL_law_406 : decode cL_law 406 = .ok (.aload_n 0, 1) := by decide +kernel
theorem dL_law_407 : decode cL_law 407 = .ok (.iload_n 3, 1) := by decide +kernel
theorem dL_law_408 : decode cL_law 408 = .ok (.iconst 2, 1) := by decide +kernel
theorem dL_law_409 : decode cL_law 409 = .ok (.iadd, 1) := by decide +kernel
theorem dL_law_410 : decode cL_law 410 = .ok (.iaload, 1) := by decide +kernel
theorem dL_law_411 : decode cL_law 411 = .ok (.aload_n 0, 1) := by decide +kernel
theorem dL_law_412 : decode cL_law 412 = .ok (.iload_n 3, 1) := by decide +kernel
theorem dL_law_413 : decode cL_law 413 = .ok (.iconst 3, 1) := by decide +kernel
theorem dL_law_414 : decode cL_law 414 = .ok (.iadd, 1) := by decide +kernel
theorem dL_law_415 : decode cL_law 415 = .ok (.iaload, 1) := by decide +kernel
theorem dL_law_416 : decode cL_law 416 = .ok (.invokevirtual 49, 3) := by decide +kernel
theorem dL_law_419 : decode cL_law 419 = .ok (.aload_n 2, 1) := by decide +kernel
theorem dL_law_420 : decode cL_law 420 = .ok (.aload_n 0, 1) := by decide +kernel
theorem dL_law_421 : decode cL_law 421 = .ok (.iload_n 3, 1) := by decide +kernel
theorem dL_law_422 : decode cL_law 422 = .ok (.iconst 1, 1) := by decide +kernel
theorem dL_law_423 : decode cL_law 423 = .ok (.iadd, 1) := by decide +kernel
theorem dL_law_424 : decode cL_law 424 = .ok (.iaload, 1) := by decide +kernel
theorem dL_law_425 : decode cL_law 425 = .ok (.aload_n 0, 1) := by decide +kernel
theorem dL_law_426 : decode cL_law 426 = .ok (.iload_n 3, 1) := by decide +kernel
theorem dL_law_427 : decode cL_law 427 = .ok (.iconst 2, 1) := by decide +kernel
theorem dL_law_428 : decode cL_law 428 = .ok (.iadd, 1) := by decide +kernel
theorem dL_law_429 : decode cL_law 429 = .ok (.iaload, 1) := by decide +kernel
theorem dL_law_430 : decode cL_law 430 = .ok (.aload_n 0, 1) := by decide +kernel
theorem dL_law_431 : decode cL_law 431 = .ok (.iload_n 3, 1) := by decide +kernel
theorem dL_law_432 : decode cL_law 432 = .ok (.iconst 3, 1) := by decide +kernel
theorem dL_law_433 : decode cL_law 433 = .ok (.iadd, 1) := by decide +kernel
theorem dL_law_434 : decode cL_law 434 = .ok (.iaload, 1) := by decide +kernel
theorem dL_law_435 : decode cL_law 435 = .ok (.invokevirtual 52, 3) := by decide +kernel
theorem dL_law_438 : decode cL_law 438 = .ok (.if_icmp .eq 933, 3) := by decide +kernel
theorem dL_law_441 : decode cL_law 441 = .ok (.iconst 0, 1) := by decide +kernel
theorem dL_law_442 : decode cL_law 442 = .ok (.ireturn, 1) := by decide +kernel
theorem dL_law_443 : decode cL_law 443 = .ok (.aload_n 1, 1) := by decide +kernel
theorem dL_law_444 : decode cL_law 444 = .ok (.aload_n 0, 1) := by decide +kernel
theorem dL_law_445 : decode cL_law 445 = .ok (.iload_n 3, 1) := by decide +kernel
theorem dL_law_446 : decode cL_law 446 = .ok (.iconst 1, 1) := by decide +kernel
theorem dL_law_447 : decode cL_law 447 = .ok (.iadd, 1) := by decide +kernel
theorem dL_law_448 : decode cL_law 448 = .ok (.iaload, 1) := by decide +kernel
theorem dL_law_449 : decode cL_law 449 = .ok (.aload_n 0, 1) := by decide +kernel
theorem dL_law_450 : decode cL_law 450 = .ok (.iload_n 3, 1) := by decide +kernel
theorem dL_law_451 : decode cL_law 451 = .ok (.iconst 2, 1) := by decide +kernel
theorem dL_law_452 : decode cL_law 452 = .ok (.iadd, 1) := by decide +kernel
theorem dL_law_453 : decode cL_law 453 = .ok (.iaload, 1) := by decide +kernel
theorem dL_law_454 : decode cL_law 454 = .ok (.invokevirtual 53, 3) := by decide +kernel
theorem dL_law_457 : decode cL_law 457 = .ok (.aload_n 2, 1) := by decide +kernel
theorem dL_law_458 : decode cL_law 458 = .ok (.aload_n 0, 1) := by decide +kernel
theorem dL_law_459 : decode cL_law 459 = .ok (.iload_n 3, 1) := by decide +kernel
theorem dL_law_460 : decode cL_law 460 = .ok (.iconst 1, 1) := by decide +kernel
theorem dL_law_461 : decode cL_law 461 = .ok (.iadd, 1) := by decide +kernel
theorem dL_law_462 : decode cL_law 462 = .ok (.iaload, 1) := by decide +kernel
theorem dL_law_463 : decode cL_law 463 = .ok (.aload_n 0, 1) := by decide +kernel
theorem dL_law_464 : decode cL_law 464 = .ok (.iload_n 3, 1) := by decide +kernel
theorem dL_law_465 : decode cL_law 465 = .ok (.iconst 2, 1) := by decide +kernel
theorem dL_law_466 : decode cL_law 466 = .ok (.iadd, 1) := by decide +kernel
theorem dL_law_467 : decode cL_law 467 = .ok (.iaload, 1) := by decide +kernel
theorem dL_law_468 : decode cL_law 468 = .ok (.invokevirtual 56, 3) := by decide +kernel
theorem dL_law_471 : decode cL_law 471 = .ok (.if_icmp .eq 900, 3) := by decide +kernel
theorem dL_law_474 : decode cL_law 474 = .ok (.iconst 0, 1) := by decide +kernel
theorem dL_law_475 : decode cL_law 475 = .ok (.ireturn, 1) := by decide +kernel
theorem dL_law_476 : decode cL_law 476 = .ok (.aload_n 1, 1) := by decide +kernel
theorem dL_law_477 : decode cL_law 477 = .ok (.aload_n 0, 1) := by decide +kernel
theorem dL_law_478 : decode cL_law 478 = .ok (.iload_n 3, 1) := by decide +kernel
theorem dL_law_479 : decode cL_law 479 = .ok (.iconst 1, 1) := by decide +kernel
theorem dL_law_480 : decode cL_law 480 = .ok (.iadd, 1) := by decide +kernel
theorem dL_law_481 : decode cL_law 481 = .ok (.iaload, 1) := by decide +kernel
theorem dL_law_482 : decode cL_law 482 = .ok (.aload_n 0, 1) := by decide +kernel
theorem dL_law_483 : decode cL_law 483 = .ok (.iload_n 3, 1) := by decide +kernel
theorem dL_law_484 : decode cL_law 484 = .ok (.iconst 2, 1) := by decide +kernel
theorem dL_law_485 : decode cL_law 485 = .ok (.iadd, 1) := by decide +kernel
theorem dL_law_486 : decode cL_law 486 = .ok (.iaload, 1) := by decide +kernel
theorem dL_law_487 : decode cL_law 487 = .ok (.aload_n 0, 1) := by decide +kernel
theorem dL_law_488 : decode cL_law 488 = .ok (.iload_n 3, 1) := by decide +kernel
theorem dL_law_489 : decode cL_law 489 = .ok (.iconst 3, 1) := by decide +kernel
theorem dL_law_490 : decode cL_law 490 = .ok (.iadd, 1) := by decide +kernel
theorem dL_law_491 : decode cL_law 491 = .ok (.iaload, 1) := by decide +kernel
theorem dL_law_492 : decode cL_law 492 = .ok (.aload_n 0, 1) := by decide +kernel
theorem dL_law_493 : decode cL_law 493 = .ok (.iload_n 3, 1) := by decide +kernel
theorem dL_law_494 : decode cL_law 494 = .ok (.iconst 4, 1) := by decide +kernel
theorem dL_law_495 : decode cL_law 495 = .ok (.iadd, 1) := by decide +kernel
theorem dL_law_496 : decode cL_law 496 = .ok (.iaload, 1) := by decide +kernel
theorem dL_law_497 : decode cL_law 497 = .ok (.aload_n 0, 1) := by decide +kernel
theorem dL_law_498 : decode cL_law 498 = .ok (.iload_n 3, 1) := by decide +kernel
theorem dL_law_499 : decode cL_law 499 = .ok (.iconst 5, 1) := by decide +kernel
theorem dL_law_500 : decode cL_law 500 = .ok (.iadd, 1) := by decide +kernel
theorem dL_law_501 : decode cL_law 501 = .ok (.iaload, 1) := by decide +kernel
theorem dL_law_502 : decode cL_law 502 = .ok (.invokevirtual 57, 3) := by decide +kernel
theorem dL_law_505 : decode cL_law 505 = .ok (.aload_n 2, 1) := by decide +kernel
theorem dL_law_506 : decode cL_law 506 = .ok (.aload_n 0, 1) := by decide +kernel
theorem dL_law_507 : decode cL_law 507 = .ok (.iload_n 3, 1) := by decide +kernel
theorem dL_law_508 : decode cL_law 508 = .ok (.iconst 1, 1) := by decide +kernel
theorem dL_law_509 : decode cL_law 509 = .ok (.iadd, 1) := by decide +kernel
theorem dL_law_510 : decode cL_law 510 = .ok (.iaload, 1) := by decide +kernel
theorem dL_law_511 : decode cL_law 511 = .ok (.aload_n 0, 1) := by decide +kernel
theorem dL_law_512 : decode cL_law 512 = .ok (.iload_n 3, 1) := by decide +kernel
theorem dL_law_513 : decode cL_law 513 = .ok (.iconst 2, 1) := by decide +kernel
theorem dL_law_514 : decode cL_law 514 = .ok (.iadd, 1) := by decide +kernel
theorem dL_law_515 : decode cL_law 515 = .ok (.iaload, 1) := by decide +kernel
theorem dL_law_516 : decode cL_law 516 = .ok (.aload_n 0, 1) := by decide +kernel
theorem dL_law_517 : decode cL_law 517 = .ok (.iload_n 3, 1) := by decide +kernel
theorem dL_law_518 : decode cL_law 518 = .ok (.iconst 3, 1) := by decide +kernel
theorem dL_law_519 : decode cL_law 519 = .ok (.iadd, 1) := by decide +kernel
theorem dL_law_520 : decode cL_law 520 = .ok (.iaload, 1) := by decide +kernel
theorem dL_law_521 : decode cL_law 521 = .ok (.aload_n 0, 1) := by decide +kernel
theorem dL_law_522 : decode cL_law 522 = .ok (.iload_n 3, 1) := by decide +kernel
theorem dL_law_523 : decode cL_law 523 = .ok (.iconst 4, 1) := by decide +kernel
theorem dL_law_524 : decode cL_law 524 = .ok (.iadd, 1) := by decide +kernel
theorem dL_law_525 : decode cL_law 525 = .ok (.iaload, 1) := by decide +kernel
theorem dL_law_526 : decode cL_law 526 = .ok (.aload_n 0, 1) := by decide +kernel
theorem dL_law_527 : decode cL_law 527 = .ok (.iload_n 3, 1) := by decide +kernel
theorem dL_law_528 : decode cL_law 528 = .ok (.iconst 5, 1) := by decide +kernel
theorem dL_law_529 : decode cL_law 529 = .ok (.iadd, 1) := by decide +kernel
theorem dL_law_530 : decode cL_law 530 = .ok (.iaload, 1) := by decide +kernel
theorem dL_law_531 : decode cL_law 531 = .ok (.invokevirtual 61, 3) := by decide +kernel
theorem dL_law_534 : decode cL_law 534 = .ok (.if_icmp .eq 837, 3) := by decide +kernel
theorem dL_law_537 : decode cL_law 537 = .ok (.iconst 0, 1) := by decide +kernel
theorem dL_law_538 : decode cL_law 538 = .ok (.ireturn, 1) := by decide +kernel
theorem dL_law_539 : decode cL_law 539 = .ok (.aload_n 1, 1) := by decide +kernel
theorem dL_law_540 : decode cL_law 540 = .ok (.aload_n 0, 1) := by decide +kernel
theorem dL_law_541 : decode cL_law 541 = .ok (.iload_n 3, 1) := by decide +kernel
theorem dL_law_542 : decode cL_law 542 = .ok (.iconst 1, 1) := by decide +kernel
theorem dL_law_543 : decode cL_law 543 = .ok (.iadd, 1) := by decide +kernel
theorem dL_law_544 : decode cL_law 544 = .ok (.iaload, 1) := by decide +kernel
theorem dL_law_545 : decode cL_law 545 = .ok (.aload_n 0, 1) := by decide +kernel
theorem dL_law_546 : decode cL_law 546 = .ok (.iload_n 3, 1) := by decide +kernel
theorem dL_law_547 : decode cL_law 547 = .ok (.iconst 2, 1) := by decide +kernel
theorem dL_law_548 : decode cL_law 548 = .ok (.iadd, 1) := by decide +kernel
theorem dL_law_549 : decode cL_law 549 = .ok (.iaload, 1) := by decide +kernel
theorem dL_law_550 : decode cL_law 550 = .ok (.aload_n 0, 1) := by decide +kernel
theorem dL_law_551 : decode cL_law 551 = .ok (.iload_n 3, 1) := by decide +kernel
theorem dL_law_552 : decode cL_law 552 = .ok (.iconst 3, 1) := by decide +kernel
theorem dL_law_553 : decode cL_law 553 = .ok (.iadd, 1) := by decide +kernel
theorem dL_law_554 : decode cL_law 554 = .ok (.iaload, 1) := by decide +kernel
theorem dL_law_555 : decode cL_law 555 = .ok (.aload_n 0, 1) := by decide +kernel
theorem dL_law_556 : decode cL_law 556 = .ok (.iload_n 3, 1) := by decide +kernel
theorem dL_law_557 : decode cL_law 557 = .ok (.iconst 4, 1) := by decide +kernel
theorem dL_law_558 : decode cL_law 558 = .ok (.iadd, 1) := by decide +kernel
theorem dL_law_559 : decode cL_law 559 = .ok (.iaload, 1) := by decide +kernel
theorem dL_law_560 : decode cL_law 560 = .ok (.aload_n 0, 1) := by decide +kernel
theorem dL_law_561 : decode cL_law 561 = .ok (.iload_n 3, 1) := by decide +kernel
theorem dL_law_562 : decode cL_law 562 = .ok (.iconst 5, 1) := by decide +kernel
theorem dL_law_563 : decode cL_law 563 = .ok (.iadd, 1) := by decide +kernel
theorem dL_law_564 : decode cL_law 564 = .ok (.iaload, 1) := by decide +kernel
theorem dL_law_565 : decode cL_law 565 = .ok (.aload_n 0, 1) := by decide +kernel
theorem dL_law_566 : decode cL_law 566 = .ok (.iload_n 3, 1) := by decide +kernel
theorem dL_law_567 : decode cL_law 567 = .ok (.bipush 6, 2) := by decide +kernel
theorem dL_law_569 : decode cL_law 569 = .ok (.iadd, 1) := by decide +kernel
theorem dL_law_570 : decode cL_law 570 = .ok (.iaload, 1) := by decide +kernel
theorem dL_law_571 : decode cL_law 571 = .ok (.invokevirtual 62, 3) := by decide +kernel
theorem dL_law_574 : decode cL_law 574 = .ok (.aload_n 2, 1) := by decide +kernel
theorem dL_law_575 : decode cL_law 575 = .ok (.aload_n 0, 1) := by decide +kernel
theorem dL_law_576 : decode cL_law 576 = .ok (.iload_n 3, 1) := by decide +kernel
theorem dL_law_577 : decode cL_law 577 = .ok (.iconst 1, 1) := by decide +kernel
theorem dL_law_578 : decode cL_law 578 = .ok (.iadd, 1) := by decide +kernel
theorem dL_law_579 : decode cL_law 579 = .ok (.iaload, 1) := by decide +kernel
theorem dL_law_580 : decode cL_law 580 = .ok (.aload_n 0, 1) := by decide +kernel
theorem dL_law_581 : decode cL_law 581 = .ok (.iload_n 3, 1) := by decide +kernel
theorem dL_law_582 : decode cL_law 582 = .ok (.iconst 2, 1) := by decide +kernel
theorem dL_law_583 : decode cL_law 583 = .ok (.iadd, 1) := by decide +kernel
theorem dL_law_584 : decode cL_law 584 = .ok (.iaload, 1) := by decide +kernel
theorem dL_law_585 : decode cL_law 585 = .ok (.aload_n 0, 1) := by decide +kernel
theorem dL_law_586 : decode cL_law 586 = .ok (.iload_n 3, 1) := by decide +kernel
theorem dL_law_587 : decode cL_law 587 = .ok (.iconst 3, 1) := by decide +kernel
theorem dL_law_588 : decode cL_law 588 = .ok (.iadd, 1) := by decide +kernel
theorem dL_law_589 : decode cL_law 589 = .ok (.iaload, 1) := by decide +kernel
theorem dL_law_590 : decode cL_law 590 = .ok (.aload_n 0, 1) := by decide +kernel
theorem dL_law_591 : decode cL_law 591 = .ok (.iload_n 3, 1) := by decide +kernel
theorem dL_law_592 : decode cL_law 592 = .ok (.iconst 4, 1) := by decide +kernel
theorem dL_law_593 : decode cL_law 593 = .ok (.iadd, 1) := by decide +kernel
theorem dL_law_594 : decode cL_law 594 = .ok (.iaload, 1) := by decide +kernel
theorem dL_law_595 : decode cL_law 595 = .ok (.aload_n 0, 1) := by decide +kernel
theorem dL_law_596 : decode cL_law 596 = .ok (.iload_n 3, 1) := by decide +kernel
theorem dL_law_597 : decode cL_law 597 = .ok (.iconst 5, 1) := by decide +kernel
theorem dL_law_598 : decode cL_law 598 = .ok (.iadd, 1) := by decide +kernel
theorem dL_law_599 : decode cL_law 599 = .ok (.iaload, 1) := by decide +kernel
theorem dL_law_600 : decode cL_law 600 = .ok (.aload_n 0, 1) := by decide +kernel
theorem dL_law_601 : decode cL_law 601 = .ok (.iload_n 3, 1) := by decide +kernel
theorem dL_law_602 : decode cL_law 602 = .ok (.bipush 6, 2) := by decide +kernel
theorem dL_law_604 : decode cL_law 604 = .ok (.iadd, 1) := by decide +kernel
theorem dL_law_605 : decode cL_law 605 = .ok (.iaload, 1) := by decide +kernel
theorem dL_law_606 : decode cL_law 606 = .ok (.invokevirtual 66, 3) := by decide +kernel
theorem dL_law_609 : decode cL_law 609 = .ok (.if_icmp .eq 762, 3) := by decide +kernel
theorem dL_law_612 : decode cL_law 612 = .ok (.iconst 0, 1) := by decide +kernel
theorem dL_law_613 : decode cL_law 613 = .ok (.ireturn, 1) := by decide +kernel
theorem dL_law_614 : decode cL_law 614 = .ok (.aload_n 1, 1) := by decide +kernel
theorem dL_law_615 : decode cL_law 615 = .ok (.aload_n 0, 1) := by decide +kernel
theorem dL_law_616 : decode cL_law 616 = .ok (.iload_n 3, 1) := by decide +kernel
theorem dL_law_617 : decode cL_law 617 = .ok (.iconst 1, 1) := by decide +kernel
theorem dL_law_618 : decode cL_law 618 = .ok (.iadd, 1) := by decide +kernel
theorem dL_law_619 : decode cL_law 619 = .ok (.iaload, 1) := by decide +kernel
theorem dL_law_620 : decode cL_law 620 = .ok (.aload_n 0, 1) := by decide +kernel
theorem dL_law_621 : decode cL_law 621 = .ok (.iload_n 3, 1) := by decide +kernel
theorem dL_law_622 : decode cL_law 622 = .ok (.iconst 2, 1) := by decide +kernel
theorem dL_law_623 : decode cL_law 623 = .ok (.iadd, 1) := by decide +kernel
theorem dL_law_624 : decode cL_law 624 = .ok (.iaload, 1) := by decide +kernel
theorem dL_law_625 : decode cL_law 625 = .ok (.aload_n 0, 1) := by decide +kernel
theorem dL_law_626 : decode cL_law 626 = .ok (.iload_n 3, 1) := by decide +kernel
theorem dL_law_627 : decode cL_law 627 = .ok (.iconst 3, 1) := by decide +kernel
theorem dL_law_628 : decode cL_law 628 = .ok (.iadd, 1) := by decide +kernel
theorem dL_law_629 : decode cL_law 629 = .ok (.iaload, 1) := by decide +kernel
theorem dL_law_630 : decode cL_law 630 = .ok (.aload_n 0, 1) := by decide +kernel
theorem dL_law_631 : decode cL_law 631 = .ok (.iload_n 3, 1) := by decide +kernel
theorem dL_law_632 : decode cL_law 632 = .ok (.iconst 4, 1) := by decide +kernel
theorem dL_law_633 : decode cL_law 633 = .ok (.iadd, 1) := by decide +kernel
theorem dL_law_634 : decode cL_law 634 = .ok (.iaload, 1) := by decide +kernel
theorem dL_law_635 : decode cL_law 635 = .ok (.invokevirtual 67, 3) := by decide +kernel
theorem dL_law_638 : decode cL_law 638 = .ok (.aload_n 2, 1) := by decide +kernel
theorem dL_law_639 : decode cL_law 639 = .ok (.aload_n 0, 1) := by decide +kernel
theorem dL_law_640 : decode cL_law 640 = .ok (.iload_n 3, 1) := by decide +kernel
theorem dL_law_641 : decode cL_law 641 = .ok (.iconst 1, 1) := by decide +kernel
theorem dL_law_642 : decode cL_law 642 = .ok (.iadd, 1) := by decide +kernel
theorem dL_law_643 : decode cL_law 643 = .ok (.iaload, 1) := by decide +kernel
theorem dL_law_644 : decode cL_law 644 = .ok (.aload_n 0, 1) := by decide +kernel
theorem dL_law_645 : decode cL_law 645 = .ok (.iload_n 3, 1) := by decide +kernel
theorem dL_law_646 : decode cL_law 646 = .ok (.iconst 2, 1) := by decide +kernel
theorem dL_law_647 : decode cL_law 647 = .ok (.iadd, 1) := by decide +kernel
theorem dL_law_648 : decode cL_law 648 = .ok (.iaload, 1) := by decide +kernel
theorem dL_law_649 : decode cL_law 649 = .ok (.aload_n 0, 1) := by decide +kernel
theorem dL_law_650 : decode cL_law 650 = .ok (.iload_n 3, 1) := by decide +kernel
theorem dL_law_651 : decode cL_law 651 = .ok (.iconst 3, 1) := by decide +kernel
theorem dL_law_652 : decode cL_law 652 = .ok (.iadd, 1) := by decide +kernel
theorem dL_law_653 : decode cL_law 653 = .ok (.iaload, 1) := by decide +kernel
theorem dL_law_654 : decode cL_law 654 = .ok (.aload_n 0, 1) := by decide +kernel
theorem dL_law_655 : decode cL_law 655 = .ok (.iload_n 3, 1) := by decide +kernel
theorem dL_law_656 : decode cL_law 656 = .ok (.iconst 4, 1) := by decide +kernel
theorem dL_law_657 : decode cL_law 657 = .ok (.iadd, 1) := by decide +kernel
theorem dL_law_658 : decode cL_law 658 = .ok (.iaload, 1) := by decide +kernel
theorem dL_law_659 : decode cL_law 659 = .ok (.invokevirtual 71, 3) := by decide +kernel
theorem dL_law_662 : decode cL_law 662 = .ok (.if_icmp .eq 709, 3) := by decide +kernel
theorem dL_law_665 : decode cL_law 665 = .ok (.iconst 0, 1) := by decide +kernel
theorem dL_law_666 : decode cL_law 666 = .ok (.ireturn, 1) := by decide +kernel
theorem dL_law_667 : decode cL_law 667 = .ok (.aload_n 1, 1) := by decide +kernel
theorem dL_law_668 : decode cL_law 668 = .ok (.aload_n 0, 1) := by decide +kernel
theorem dL_law_669 : decode cL_law 669 = .ok (.iload_n 3, 1) := by decide +kernel
theorem dL_law_670 : decode cL_law 670 = .ok (.iconst 1, 1) := by decide +kernel
theorem dL_law_671 : decode cL_law 671 = .ok (.iadd, 1) := by decide +kernel
theorem dL_law_672 : decode cL_law 672 = .ok (.iaload, 1) := by decide +kernel
theorem dL_law_673 : decode cL_law 673 = .ok (.aload_n 0, 1) := by decide +kernel
theorem dL_law_674 : decode cL_law 674 = .ok (.iload_n 3, 1) := by decide +kernel
theorem dL_law_675 : decode cL_law 675 = .ok (.iconst 2, 1) := by decide +kernel
theorem dL_law_676 : decode cL_law 676 = .ok (.iadd, 1) := by decide +kernel
theorem dL_law_677 : decode cL_law 677 = .ok (.iaload, 1) := by decide +kernel
theorem dL_law_678 : decode cL_law 678 = .ok (.aload_n 0, 1) := by decide +kernel
theorem dL_law_679 : decode cL_law 679 = .ok (.iload_n 3, 1) := by decide +kernel
theorem dL_law_680 : decode cL_law 680 = .ok (.iconst 3, 1) := by decide +kernel
theorem dL_law_681 : decode cL_law 681 = .ok (.iadd, 1) := by decide +kernel
theorem dL_law_682 : decode cL_law 682 = .ok (.iaload, 1) := by decide +kernel
theorem dL_law_683 : decode cL_law 683 = .ok (.aload_n 0, 1) := by decide +kernel
theorem dL_law_684 : decode cL_law 684 = .ok (.iload_n 3, 1) := by decide +kernel
theorem dL_law_685 : decode cL_law 685 = .ok (.iconst 4, 1) := by decide +kernel
theorem dL_law_686 : decode cL_law 686 = .ok (.iadd, 1) := by decide +kernel
theorem dL_law_687 : decode cL_law 687 = .ok (.iaload, 1) := by decide +kernel
theorem dL_law_688 : decode cL_law 688 = .ok (.invokevirtual 72, 3) := by decide +kernel
theorem dL_law_691 : decode cL_law 691 = .ok (.aload_n 2, 1) := by decide +kernel
theorem dL_law_692 : decode cL_law 692 = .ok (.aload_n 0, 1) := by decide +kernel
theorem dL_law_693 : decode cL_law 693 = .ok (.iload_n 3, 1) := by decide +kernel
theorem dL_law_694 : decode cL_law 694 = .ok (.iconst 1, 1) := by decide +kernel
theorem dL_law_695 : decode cL_law 695 = .ok (.iadd, 1) := by decide +kernel
theorem dL_law_696 : decode cL_law 696 = .ok (.iaload, 1) := by decide +kernel
theorem dL_law_697 : decode cL_law 697 = .ok (.aload_n 0, 1) := by decide +kernel
theorem dL_law_698 : decode cL_law 698 = .ok (.iload_n 3, 1) := by decide +kernel
theorem dL_law_699 : decode cL_law 699 = .ok (.iconst 2, 1) := by decide +kernel
theorem dL_law_700 : decode cL_law 700 = .ok (.iadd, 1) := by decide +kernel
theorem dL_law_701 : decode cL_law 701 = .ok (.iaload, 1) := by decide +kernel
theorem dL_law_702 : decode cL_law 702 = .ok (.aload_n 0, 1) := by decide +kernel
theorem dL_law_703 : decode cL_law 703 = .ok (.iload_n 3, 1) := by decide +kernel
theorem dL_law_704 : decode cL_law 704 = .ok (.iconst 3, 1) := by decide +kernel
theorem dL_law_705 : decode cL_law 705 = .ok (.iadd, 1) := by decide +kernel
theorem dL_law_706 : decode cL_law 706 = .ok (.iaload, 1) := by decide +kernel
theorem dL_law_707 : decode cL_law 707 = .ok (.aload_n 0, 1) := by decide +kernel
theorem dL_law_708 : decode cL_law 708 = .ok (.iload_n 3, 1) := by decide +kernel
theorem dL_law_709 : decode cL_law 709 = .ok (.iconst 4, 1) := by decide +kernel
theorem dL_law_710 : decode cL_law 710 = .ok (.iadd, 1) := by decide +kernel
theorem dL_law_711 : decode cL_law 711 = .ok (.iaload, 1) := by decide +kernel
theorem dL_law_712 : decode cL_law 712 = .ok (.invokevirtual 75, 3) := by decide +kernel
theorem dL_law_715 : decode cL_law 715 = .ok (.if_icmp .eq 656, 3) := by decide +kernel
theorem dL_law_718 : decode cL_law 718 = .ok (.iconst 0, 1) := by decide +kernel
theorem dL_law_719 : decode cL_law 719 = .ok (.ireturn, 1) := by decide +kernel
theorem dL_law_720 : decode cL_law 720 = .ok (.aload_n 1, 1) := by decide +kernel
theorem dL_law_721 : decode cL_law 721 = .ok (.aload_n 0, 1) := by decide +kernel
theorem dL_law_722 : decode cL_law 722 = .ok (.iload_n 3, 1) := by decide +kernel
theorem dL_law_723 : decode cL_law 723 = .ok (.iconst 1, 1) := by decide +kernel
theorem dL_law_724 : decode cL_law 724 = .ok (.iadd, 1) := by decide +kernel
theorem dL_law_725 : decode cL_law 725 = .ok (.iaload, 1) := by decide +kernel
theorem dL_law_726 : decode cL_law 726 = .ok (.aload_n 0, 1) := by decide +kernel
theorem dL_law_727 : decode cL_law 727 = .ok (.iload_n 3, 1) := by decide +kernel
theorem dL_law_728 : decode cL_law 728 = .ok (.iconst 2, 1) := by decide +kernel
theorem dL_law_729 : decode cL_law 729 = .ok (.iadd, 1) := by decide +kernel
theorem dL_law_730 : decode cL_law 730 = .ok (.iaload, 1) := by decide +kernel
theorem dL_law_731 : decode cL_law 731 = .ok (.aload_n 0, 1) := by decide +kernel
theorem dL_law_732 : decode cL_law 732 = .ok (.iload_n 3, 1) := by decide +kernel
theorem dL_law_733 : decode cL_law 733 = .ok (.iconst 3, 1) := by decide +kernel
theorem dL_law_734 : decode cL_law 734 = .ok (.iadd, 1) := by decide +kernel
theorem dL_law_735 : decode cL_law 735 = .ok (.iaload, 1) := by decide +kernel
theorem dL_law_736 : decode cL_law 736 = .ok (.aload_n 0, 1) := by decide +kernel
theorem dL_law_737 : decode cL_law 737 = .ok (.iload_n 3, 1) := by decide +kernel
theorem dL_law_738 : decode cL_law 738 = .ok (.iconst 4, 1) := by decide +kernel
theorem dL_law_739 : decode cL_law 739 = .ok (.iadd, 1) := by decide +kernel
theorem dL_law_740 : decode cL_law 740 = .ok (.iaload, 1) := by decide +kernel
theorem dL_law_741 : decode cL_law 741 = .ok (.aload_n 0, 1) := by decide +kernel
theorem dL_law_742 : decode cL_law 742 = .ok (.iload_n 3, 1) := by decide +kernel
theorem dL_law_743 : decode cL_law 743 = .ok (.iconst 5, 1) := by decide +kernel
theorem dL_law_744 : decode cL_law 744 = .ok (.iadd, 1) := by decide +kernel
theorem dL_law_745 : decode cL_law 745 = .ok (.iaload, 1) := by decide +kernel
theorem dL_law_746 : decode cL_law 746 = .ok (.invokevirtual 76, 3) := by decide +kernel
theorem dL_law_749 : decode cL_law 749 = .ok (.aload_n 2, 1) := by decide +kernel
theorem dL_law_750 : decode cL_law 750 = .ok (.aload_n 0, 1) := by decide +kernel
theorem dL_law_751 : decode cL_law 751 = .ok (.iload_n 3, 1) := by decide +kernel
theorem dL_law_752 : decode cL_law 752 = .ok (.iconst 1, 1) := by decide +kernel
theorem dL_law_753 : decode cL_law 753 = .ok (.iadd, 1) := by decide +kernel
theorem dL_law_754 : decode cL_law 754 = .ok (.iaload, 1) := by decide +kernel
theorem dL_law_755 : decode cL_law 755 = .ok (.aload_n 0, 1) := by decide +kernel
theorem dL_law_756 : decode cL_law 756 = .ok (.iload_n 3, 1) := by decide +kernel
theorem dL_law_757 : decode cL_law 757 = .ok (.iconst 2, 1) := by decide +kernel
theorem dL_law_758 : decode cL_law 758 = .ok (.iadd, 1) := by decide +kernel
theorem dL_law_759 : decode cL_law 759 = .ok (.iaload, 1) := by decide +kernel
theorem dL_law_760 : decode cL_law 760 = .ok (.aload_n 0, 1) := by decide +kernel
theorem dL_law_761 : decode cL_law 761 = .ok (.iload_n 3, 1) := by decide +kernel
theorem dL_law_762 : decode cL_law 762 = .ok (.iconst 3, 1) := by decide +kernel
theorem dL_law_763 : decode cL_law 763 = .ok (.iadd, 1) := by decide +kernel
theorem dL_law_764 : decode cL_law 764 = .ok (.iaload, 1) := by decide +kernel
theorem dL_law_765 : decode cL_law 765 = .ok (.aload_n 0, 1) := by decide +kernel
theorem dL_law_766 : decode cL_law 766 = .ok (.iload_n 3, 1) := by decide +kernel
theorem dL_law_767 : decode cL_law 767 = .ok (.iconst 4, 1) := by decide +kernel
theorem dL_law_768 : decode cL_law 768 = .ok (.iadd, 1) := by decide +kernel
theorem dL_law_769 : decode cL_law 769 = .ok (.iaload, 1) := by decide +kernel
theorem dL_law_770 : decode cL_law 770 = .ok (.aload_n 0, 1) := by decide +kernel
theorem dL_law_771 : decode cL_law 771 = .ok (.iload_n 3, 1) := by decide +kernel
theorem dL_law_772 : decode cL_law 772 = .ok (.iconst 5, 1) := by decide +kernel
theorem dL_law_773 : decode cL_law 773 = .ok (.iadd, 1) := by decide +kernel
theorem dL_law_774 : decode cL_law 774 = .ok (.iaload, 1) := by decide +kernel
theorem dL_law_775 : decode cL_law 775 = .ok (.invokevirtual 79, 3) := by decide +kernel
theorem dL_law_778 : decode cL_law 778 = .ok (.if_icmp .eq 593, 3) := by decide +kernel
theorem dL_law_781 : decode cL_law 781 = .ok (.iconst 0, 1) := by decide +kernel
theorem dL_law_782 : decode cL_law 782 = .ok (.ireturn, 1) := by decide +kernel
theorem dL_law_783 : decode cL_law 783 = .ok (.aload_n 1, 1) := by decide +kernel
theorem dL_law_784 : decode cL_law 784 = .ok (.aload_n 0, 1) := by decide +kernel
theorem dL_law_785 : decode cL_law 785 = .ok (.iload_n 3, 1) := by decide +kernel
theorem dL_law_786 : decode cL_law 786 = .ok (.iconst 1, 1) := by decide +kernel
theorem dL_law_787 : decode cL_law 787 = .ok (.iadd, 1) := by decide +kernel
theorem dL_law_788 : decode cL_law 788 = .ok (.iaload, 1) := by decide +kernel
theorem dL_law_789 : decode cL_law 789 = .ok (.aload_n 0, 1) := by decide +kernel
theorem dL_law_790 : decode cL_law 790 = .ok (.iload_n 3, 1) := by decide +kernel
theorem dL_law_791 : decode cL_law 791 = .ok (.iconst 2, 1) := by decide +kernel
theorem dL_law_792 : decode cL_law 792 = .ok (.iadd, 1) := by decide +kernel
theorem dL_law_793 : decode cL_law 793 = .ok (.iaload, 1) := by decide +kernel
theorem dL_law_794 : decode cL_law 794 = .ok (.aload_n 0, 1) := by decide +kernel
theorem dL_law_795 : decode cL_law 795 = .ok (.iload_n 3, 1) := by decide +kernel
theorem dL_law_796 : decode cL_law 796 = .ok (.iconst 3, 1) := by decide +kernel
theorem dL_law_797 : decode cL_law 797 = .ok (.iadd, 1) := by decide +kernel
theorem dL_law_798 : decode cL_law 798 = .ok (.iaload, 1) := by decide +kernel
theorem dL_law_799 : decode cL_law 799 = .ok (.aload_n 0, 1) := by decide +kernel
theorem dL_law_800 : decode cL_law 800 = .ok (.iload_n 3, 1) := by decide +kernel
theorem dL_law_801 : decode cL_law 801 = .ok (.iconst 4, 1) := by decide +kernel
theorem dL_law_802 : decode cL_law 802 = .ok (.iadd, 1) := by decide +kernel
theorem dL_law_803 : decode cL_law 803 = .ok (.iaload, 1) := by decide +kernel
theorem dL_law_804 : decode cL_law 804 = .ok (.aload_n 0, 1) := by decide +kernel
theorem dL_law_805 : decode cL_law 805 = .ok (.iload_n 3, 1) := by decide +kernel
theorem dL_law_806 : decode cL_law 806 = .ok (.iconst 5, 1) := by decide +kernel
theorem dL_law_807 : decode cL_law 807 = .ok (.iadd, 1) := by decide +kernel
theorem dL_law_808 : decode cL_law 808 = .ok (.iaload, 1) := by decide +kernel
theorem dL_law_809 : decode cL_law 809 = .ok (.aload_n 0, 1) := by decide +kernel
theorem dL_law_810 : decode cL_law 810 = .ok (.iload_n 3, 1) := by decide +kernel
theorem dL_law_811 : decode cL_law 811 = .ok (.bipush 6, 2) := by decide +kernel
theorem dL_law_813 : decode cL_law 813 = .ok (.iadd, 1) := by decide +kernel
theorem dL_law_814 : decode cL_law 814 = .ok (.iaload, 1) := by decide +kernel
theorem dL_law_815 : decode cL_law 815 = .ok (.invokevirtual 80, 3) := by decide +kernel
theorem dL_law_818 : decode cL_law 818 = .ok (.aload_n 2, 1) := by decide +kernel
theorem dL_law_819 : decode cL_law 819 = .ok (.aload_n 0, 1) := by decide +kernel
theorem dL_law_820 : decode cL_law 820 = .ok (.iload_n 3, 1) := by decide +kernel
theorem dL_law_821 : decode cL_law 821 = .ok (.iconst 1, 1) := by decide +kernel
theorem dL_law_822 : decode cL_law 822 = .ok (.iadd, 1) := by decide +kernel
theorem dL_law_823 : decode cL_law 823 = .ok (.iaload, 1) := by decide +kernel
theorem dL_law_824 : decode cL_law 824 = .ok (.aload_n 0, 1) := by decide +kernel
theorem dL_law_825 : decode cL_law 825 = .ok (.iload_n 3, 1) := by decide +kernel
theorem dL_law_826 : decode cL_law 826 = .ok (.iconst 2, 1) := by decide +kernel
theorem dL_law_827 : decode cL_law 827 = .ok (.iadd, 1) := by decide +kernel
theorem dL_law_828 : decode cL_law 828 = .ok (.iaload, 1) := by decide +kernel
theorem dL_law_829 : decode cL_law 829 = .ok (.aload_n 0, 1) := by decide +kernel
theorem dL_law_830 : decode cL_law 830 = .ok (.iload_n 3, 1) := by decide +kernel
theorem dL_law_831 : decode cL_law 831 = .ok (.iconst 3, 1) := by decide +kernel
theorem dL_law_832 : decode cL_law 832 = .ok (.iadd, 1) := by decide +kernel
theorem dL_law_833 : decode cL_law 833 = .ok (.iaload, 1) := by decide +kernel
theorem dL_law_834 : decode cL_law 834 = .ok (.aload_n 0, 1) := by decide +kernel
theorem dL_law_835 : decode cL_law 835 = .ok (.iload_n 3, 1) := by decide +kernel
theorem dL_law_836 : decode cL_law 836 = .ok (.iconst 4, 1) := by decide +kernel
theorem dL_law_837 : decode cL_law 837 = .ok (.iadd, 1) := by decide +kernel
theorem dL_law_838 : decode cL_law 838 = .ok (.iaload, 1) := by decide +kernel
theorem dL_law_839 : decode cL_law 839 = .ok (.aload_n 0, 1) := by decide +kernel
theorem dL_law_840 : decode cL_law 840 = .ok (.iload_n 3, 1) := by decide +kernel
theorem dL_law_841 : decode cL_law 841 = .ok (.iconst 5, 1) := by decide +kernel
theorem dL_law_842 : decode cL_law 842 = .ok (.iadd, 1) := by decide +kernel
theorem dL_law_843 : decode cL_law 843 = .ok (.iaload, 1) := by decide +kernel
theorem dL_law_844 : decode cL_law 844 = .ok (.aload_n 0, 1) := by decide +kernel
theorem dL_law_845 : decode cL_law 845 = .ok (.iload_n 3, 1) := by decide +kernel
theorem dL_law_846 : decode cL_law 846 = .ok (.bipush 6, 2) := by decide +kernel
theorem dL_law_848 : decode cL_law 848 = .ok (.iadd, 1) := by decide +kernel
theorem dL_law_849 : decode cL_law 849 = .ok (.iaload, 1) := by decide +kernel
theorem dL_law_850 : decode cL_law 850 = .ok (.invokevirtual 83, 3) := by decide +kernel
theorem dL_law_853 : decode cL_law 853 = .ok (.if_icmp .eq 518, 3) := by decide +kernel
theorem dL_law_856 : decode cL_law 856 = .ok (.iconst 0, 1) := by decide +kernel
theorem dL_law_857 : decode cL_law 857 = .ok (.ireturn, 1) := by decide +kernel
theorem dL_law_858 : decode cL_law 858 = .ok (.aload_n 1, 1) := by decide +kernel
theorem dL_law_859 : decode cL_law 859 = .ok (.aload_n 0, 1) := by decide +kernel
theorem dL_law_860 : decode cL_law 860 = .ok (.iload_n 3, 1) := by decide +kernel
theorem dL_law_861 : decode cL_law 861 = .ok (.iconst 1, 1) := by decide +kernel
theorem dL_law_862 : decode cL_law 862 = .ok (.iadd, 1) := by decide +kernel
theorem dL_law_863 : decode cL_law 863 = .ok (.iaload, 1) := by decide +kernel
theorem dL_law_864 : decode cL_law 864 = .ok (.invokevirtual 84, 3) := by decide +kernel
theorem dL_law_867 : decode cL_law 867 = .ok (.aload_n 2, 1) := by decide +kernel
theorem dL_law_868 : decode cL_law 868 = .ok (.aload_n 0, 1) := by decide +kernel
theorem dL_law_869 : decode cL_law 869 = .ok (.iload_n 3, 1) := by decide +kernel
theorem dL_law_870 : decode cL_law 870 = .ok (.iconst 1, 1) := by decide +kernel
theorem dL_law_871 : decode cL_law 871 = .ok (.iadd, 1) := by decide +kernel
theorem dL_law_872 : decode cL_law 872 = .ok (.iaload, 1) := by decide +kernel
theorem dL_law_873 : decode cL_law 873 = .ok (.invokevirtual 87, 3) := by decide +kernel
theorem dL_law_876 : decode cL_law 876 = .ok (.if_icmp .eq 495, 3) := by decide +kernel
theorem dL_law_879 : decode cL_law 879 = .ok (.iconst 0, 1) := by decide +kernel
theorem dL_law_880 : decode cL_law 880 = .ok (.ireturn, 1) := by decide +kernel
theorem dL_law_881 : decode cL_law 881 = .ok (.aload_n 1, 1) := by decide +kernel
theorem dL_law_882 : decode cL_law 882 = .ok (.aload_n 0, 1) := by decide +kernel
theorem dL_law_883 : decode cL_law 883 = .ok (.iload_n 3, 1) := by decide +kernel
theorem dL_law_884 : decode cL_law 884 = .ok (.iconst 1, 1) := by decide +kernel
theorem dL_law_885 : decode cL_law 885 = .ok (.iadd, 1) := by decide +kernel
theorem dL_law_886 : decode cL_law 886 = .ok (.iaload, 1) := by decide +kernel
theorem dL_law_887 : decode cL_law 887 = .ok (.aload_n 0, 1) := by decide +kernel
theorem dL_law_888 : decode cL_law 888 = .ok (.iload_n 3, 1) := by decide +kernel
theorem dL_law_889 : decode cL_law 889 = .ok (.iconst 2, 1) := by decide +kernel
theorem dL_law_890 : decode cL_law 890 = .ok (.iadd, 1) := by decide +kernel
theorem dL_law_891 : decode cL_law 891 = .ok (.iaload, 1) := by decide +kernel
theorem dL_law_892 : decode cL_law 892 = .ok (.invokevirtual 88, 3) := by decide +kernel
theorem dL_law_895 : decode cL_law 895 = .ok (.aload_n 2, 1) := by decide +kernel
theorem dL_law_896 : decode cL_law 896 = .ok (.aload_n 0, 1) := by decide +kernel
theorem dL_law_897 : decode cL_law 897 = .ok (.iload_n 3, 1) := by decide +kernel
theorem dL_law_898 : decode cL_law 898 = .ok (.iconst 1, 1) := by decide +kernel
theorem dL_law_899 : decode cL_law 899 = .ok (.iadd, 1) := by decide +kernel
theorem dL_law_900 : decode cL_law 900 = .ok (.iaload, 1) := by decide +kernel
theorem dL_law_901 : decode cL_law 901 = .ok (.aload_n 0, 1) := by decide +kernel
theorem dL_law_902 : decode cL_law 902 = .ok (.iload_n 3, 1) := by decide +kernel
theorem dL_law_903 : decode cL_law 903 = .ok (.iconst 2, 1) := by decide +kernel
theorem dL_law_904 : decode cL_law 904 = .ok (.iadd, 1) := by decide +kernel
theorem dL_law_905 : decode cL_law 905 = .ok (.iaload, 1) := by decide +kernel
theorem dL_law_906 : decode cL_law 906 = .ok (.invokevirtual 91, 3) := by decide +kernel
theorem dL_law_909 : decode cL_law 909 = .ok (.if_icmp .eq 462, 3) := by decide +kernel
theorem dL_law_912 : decode cL_law 912 = .ok (.iconst 0, 1) := by decide +kernel
theorem dL_law_913 : decode cL_law 913 = .ok (.ireturn, 1) := by decide +kernel
theorem dL_law_914 : decode cL_law 914 = .ok (.aload_n 1, 1) := by decide +kernel
theorem dL_law_915 : decode cL_law 915 = .ok (.aload_n 0, 1) := by decide +kernel
theorem dL_law_916 : decode cL_law 916 = .ok (.iload_n 3, 1) := by decide +kernel
theorem dL_law_917 : decode cL_law 917 = .ok (.iconst 1, 1) := by decide +kernel
theorem dL_law_918 : decode cL_law 918 = .ok (.iadd, 1) := by decide +kernel
theorem dL_law_919 : decode cL_law 919 = .ok (.iaload, 1) := by decide +kernel
theorem dL_law_920 : decode cL_law 920 = .ok (.aload_n 0, 1) := by decide +kernel
theorem dL_law_921 : decode cL_law 921 = .ok (.iload_n 3, 1) := by decide +kernel
theorem dL_law_922 : decode cL_law 922 = .ok (.iconst 2, 1) := by decide +kernel
theorem dL_law_923 : decode cL_law 923 = .ok (.iadd, 1) := by decide +kernel
theorem dL_law_924 : decode cL_law 924 = .ok (.iaload, 1) := by decide +kernel
theorem dL_law_925 : decode cL_law 925 = .ok (.aload_n 0, 1) := by decide +kernel
theorem dL_law_926 : decode cL_law 926 = .ok (.iload_n 3, 1) := by decide +kernel
theorem dL_law_927 : decode cL_law 927 = .ok (.iconst 3, 1) := by decide +kernel
theorem dL_law_928 : decode cL_law 928 = .ok (.iadd, 1) := by decide +kernel
theorem dL_law_929 : decode cL_law 929 = .ok (.iaload, 1) := by decide +kernel
theorem dL_law_930 : decode cL_law 930 = .ok (.invokevirtual 92, 3) := by decide +kernel
theorem dL_law_933 : decode cL_law 933 = .ok (.aload_n 2, 1) := by decide +kernel
theorem dL_law_934 : decode cL_law 934 = .ok (.aload_n 0, 1) := by decide +kernel
theorem dL_law_935 : decode cL_law 935 = .ok (.iload_n 3, 1) := by decide +kernel
theorem dL_law_936 : decode cL_law 936 = .ok (.iconst 1, 1) := by decide +kernel
theorem dL_law_937 : decode cL_law 937 = .ok (.iadd, 1) := by decide +kernel
theorem dL_law_938 : decode cL_law 938 = .ok (.iaload, 1) := by decide +kernel
theorem dL_law_939 : decode cL_law 939 = .ok (.aload_n 0, 1) := by decide +kernel
theorem dL_law_940 : decode cL_law 940 = .ok (.iload_n 3, 1) := by decide +kernel
theorem dL_law_941 : decode cL_law 941 = .ok (.iconst 2, 1) := by decide +kernel
theorem dL_law_942 : decode cL_law 942 = .ok (.iadd, 1) := by decide +kernel
theorem dL_law_943 : decode cL_law 943 = .ok (.iaload, 1) := by decide +kernel
theorem dL_law_944 : decode cL_law 944 = .ok (.aload_n 0, 1) := by decide +kernel
theorem dL_law_945 : decode cL_law 945 = .ok (.iload_n 3, 1) := by decide +kernel
theorem dL_law_946 : decode cL_law 946 = .ok (.iconst 3, 1) := by decide +kernel
theorem dL_law_947 : decode cL_law 947 = .ok (.iadd, 1) := by decide +kernel
theorem dL_law_948 : decode cL_law 948 = .ok (.iaload, 1) := by decide +kernel
theorem dL_law_949 : decode cL_law 949 = .ok (.invokevirtual 95, 3) := by decide +kernel
theorem dL_law_952 : decode cL_law 952 = .ok (.if_icmp .eq 419, 3) := by decide +kernel
theorem dL_law_955 : decode cL_law 955 = .ok (.iconst 0, 1) := by decide +kernel
theorem dL_law_956 : decode cL_law 956 = .ok (.ireturn, 1) := by decide +kernel
theorem dL_law_957 : decode cL_law 957 = .ok (.aload_n 1, 1) := by decide +kernel
theorem dL_law_958 : decode cL_law 958 = .ok (.aload_n 0, 1) := by decide +kernel
theorem dL_law_959 : decode cL_law 959 = .ok (.iload_n 3, 1) := by decide +kernel
theorem dL_law_960 : decode cL_law 960 = .ok (.iconst 1, 1) := by decide +kernel
theorem dL_law_961 : decode cL_law 961 = .ok (.iadd, 1) := by decide +kernel
theorem dL_law_962 : decode cL_law 962 = .ok (.iaload, 1) := by decide +kernel
theorem dL_law_963 : decode cL_law 963 = .ok (.invokevirtual 96, 3) := by decide +kernel
theorem dL_law_966 : decode cL_law 966 = .ok (.aload_n 2, 1) := by decide +kernel
theorem dL_law_967 : decode cL_law 967 = .ok (.aload_n 0, 1) := by decide +kernel
theorem dL_law_968 : decode cL_law 968 = .ok (.iload_n 3, 1) := by decide +kernel
theorem dL_law_969 : decode cL_law 969 = .ok (.iconst 1, 1) := by decide +kernel
theorem dL_law_970 : decode cL_law 970 = .ok (.iadd, 1) := by decide +kernel
theorem dL_law_971 : decode cL_law 971 = .ok (.iaload, 1) := by decide +kernel
theorem dL_law_972 : decode cL_law 972 = .ok (.invokevirtual 99, 3) := by decide +kernel
theorem dL_law_975 : decode cL_law 975 = .ok (.if_icmp .eq 396, 3) := by decide +kernel
theorem dL_law_978 : decode cL_law 978 = .ok (.iconst 0, 1) := by decide +kernel
theorem dL_law_979 : decode cL_law 979 = .ok (.ireturn, 1) := by decide +kernel
theorem dL_law_980 : decode cL_law 980 = .ok (.aload_n 1, 1) := by decide +kernel
theorem dL_law_981 : decode cL_law 981 = .ok (.aload_n 0, 1) := by decide +kernel
theorem dL_law_982 : decode cL_law 982 = .ok (.iload_n 3, 1) := by decide +kernel
theorem dL_law_983 : decode cL_law 983 = .ok (.iconst 1, 1) := by decide +kernel
theorem dL_law_984 : decode cL_law 984 = .ok (.iadd, 1) := by decide +kernel
theorem dL_law_985 : decode cL_law 985 = .ok (.iaload, 1) := by decide +kernel
theorem dL_law_986 : decode cL_law 986 = .ok (.invokevirtual 100, 3) := by decide +kernel
theorem dL_law_989 : decode cL_law 989 = .ok (.aload_n 2, 1) := by decide +kernel
theorem dL_law_990 : decode cL_law 990 = .ok (.aload_n 0, 1) := by decide +kernel
theorem dL_law_991 : decode cL_law 991 = .ok (.iload_n 3, 1) := by decide +kernel
theorem dL_law_992 : decode cL_law 992 = .ok (.iconst 1, 1) := by decide +kernel
theorem dL_law_993 : decode cL_law 993 = .ok (.iadd, 1) := by decide +kernel
theorem dL_law_994 : decode cL_law 994 = .ok (.iaload, 1) := by decide +kernel
theorem dL_law_995 : decode cL_law 995 = .ok (.invokevirtual 103, 3) := by decide +kernel
theorem dL_law_998 : decode cL_law 998 = .ok (.if_icmp .eq 373, 3) := by decide +kernel
theorem dL_law_1001 : decode cL_law 1001 = .ok (.iconst 0, 1) := by decide +kernel
theorem dL_law_1002 : decode cL_law 1002 = .ok (.ireturn, 1) := by decide +kernel
theorem dL_law_1003 : decode cL_law 1003 = .ok (.aload_n 1, 1) := by decide +kernel
theorem dL_law_1004 : decode cL_law 1004 = .ok (.invokevirtual 104, 3) := by decide +kernel
theorem dL_law_1007 : decode cL_law 1007 = .ok (.aload_n 2, 1) := by decide +kernel
theorem dL_law_1008 : decode cL_law 1008 = .ok (.invokevirtual 107, 3) := by decide +kernel
theorem dL_law_1011 : decode cL_law 1011 = .ok (.if_icmp .eq 360, 3) := by decide +kernel
theorem dL_law_1014 : decode cL_law 1014 = .ok (.iconst 0, 1) := by decide +kernel
theorem dL_law_1015 : decode cL_law 1015 = .ok (.ireturn, 1) := by decide +kernel
theorem dL_law_1016 : decode cL_law 1016 = .ok (.aload_n 1, 1) := by decide +kernel
theorem dL_law_1017 : decode cL_law 1017 = .ok (.aload_n 0, 1) := by decide +kernel
theorem dL_law_1018 : decode cL_law 1018 = .ok (.iload_n 3, 1) := by decide +kernel
theorem dL_law_1019 : decode cL_law 1019 = .ok (.iconst 1, 1) := by decide +kernel
theorem dL_law_1020 : decode cL_law 1020 = .ok (.iadd, 1) := by decide +kernel
theorem dL_law_1021 : decode cL_law 1021 = .ok (.iaload, 1) := by decide +kernel
theorem dL_law_1022 : decode cL_law 1022 = .ok (.aload_n 0, 1) := by decide +kernel
theorem dL_law_1023 : decode cL_law 1023 = .ok (.iload_n 3, 1) := by decide +kernel
theorem dL_law_1024 : decode cL_law 1024 = .ok (.iconst 2, 1) := by decide +kernel
theorem dL_law_1025 : decode cL_law 1025 = .ok (.iadd, 1) := by decide +kernel
theorem dL_law_1026 : decode cL_law 1026 = .ok (.iaload, 1) := by decide +kernel
theorem dL_law_1027 : decode cL_law 1027 = .ok (.invokevirtual 108, 3) := by decide +kernel
theorem dL_law_1030 : decode cL_law 1030 = .ok (.aload_n 2, 1) := by decide +kernel
theorem dL_law_1031 : decode cL_law 1031 = .ok (.aload_n 0, 1) := by decide +kernel
theorem dL_law_1032 : decode cL_law 1032 = .ok (.iload_n 3, 1) := by decide +kernel
theorem dL_law_1033 : decode cL_law 1033 = .ok (.iconst 1, 1) := by decide +kernel
theorem dL_law_1034 : decode cL_law 1034 = .ok (.iadd, 1) := by decide +kernel
theorem dL_law_1035 : decode cL_law 1035 = .ok (.iaload, 1) := by decide +kernel
theorem dL_law_1036 : decode cL_law 1036 = .ok (.aload_n 0, 1) := by decide +kernel
theorem dL_law_1037 : decode cL_law 1037 = .ok (.iload_n 3, 1) := by decide +kernel
theorem dL_law_1038 : decode cL_law 1038 = .ok (.iconst 2, 1) := by decide +kernel
theorem dL_law_1039 : decode cL_law 1039 = .ok (.iadd, 1) := by decide +kernel
theorem dL_law_1040 : decode cL_law 1040 = .ok (.iaload, 1) := by decide +kernel
theorem dL_law_1041 : decode cL_law 1041 = .ok (.invokevirtual 111, 3) := by decide +kernel
theorem dL_law_1044 : decode cL_law 1044 = .ok (.if_icmp .eq 327, 3) := by decide +kernel
theorem dL_law_1047 : decode cL_law 1047 = .ok (.iconst 0, 1) := by decide +kernel
theorem dL_law_1048 : decode cL_law 1048 = .ok (.ireturn, 1) := by decide +kernel
theorem dL_law_1049 : decode cL_law 1049 = .ok (.aload_n 1, 1) := by decide +kernel
theorem dL_law_1050 : decode cL_law 1050 = .ok (.invokevirtual 112, 3) := by decide +kernel
theorem dL_law_1053 : decode cL_law 1053 = .ok (.aload_n 2, 1) := by decide +kernel
theorem dL_law_1054 : decode cL_law 1054 = .ok (.invokevirtual 115, 3) := by decide +kernel
theorem dL_law_1057 : decode cL_law 1057 = .ok (.if_icmp .eq 314, 3) := by decide +kernel
theorem dL_law_1060 : decode cL_law 1060 = .ok (.iconst 0, 1) := by decide +kernel
theorem dL_law_1061 : decode cL_law 1061 = .ok (.ireturn, 1) := by decide +kernel
theorem dL_law_1062 : decode cL_law 1062 = .ok (.aload_n 1, 1) := by decide +kernel
theorem dL_law_1063 : decode cL_law 1063 = .ok (.aload_n 0, 1) := by decide +kernel
theorem dL_law_1064 : decode cL_law 1064 = .ok (.iload_n 3, 1) := by decide +kernel
theorem dL_law_1065 : decode cL_law 1065 = .ok (.iconst 1, 1) := by decide +kernel
theorem dL_law_1066 : decode cL_law 1066 = .ok (.iadd, 1) := by decide +kernel
theorem dL_law_1067 : decode cL_law 1067 = .ok (.iaload, 1) := by decide +kernel
theorem dL_law_1068 : decode cL_law 1068 = .ok (.invokevirtual 116, 3) := by decide +kernel
theorem dL_law_1071 : decode cL_law 1071 = .ok (.aload_n 2, 1) := by decide +kernel
theorem dL_law_1072 : decode cL_law 1072 = .ok (.aload_n 0, 1) := by decide +kernel
theorem dL_law_1073 : decode cL_law 1073 = .ok (.iload_n 3, 1) := by decide +kernel
theorem dL_law_1074 : decode cL_law 1074 = .ok (.iconst 1, 1) := by decide +kernel
theorem dL_law_1075 : decode cL_law 1075 = .ok (.iadd, 1) := by decide +kernel
theorem dL_law_1076 : decode cL_law 1076 = .ok (.iaload, 1) := by decide +kernel
theorem dL_law_1077 : decode cL_law 1077 = .ok (.invokevirtual 119, 3) := by decide +kernel
theorem dL_law_1080 : decode cL_law 1080 = .ok (.if_icmp .eq 291, 3) := by decide +kernel
theorem dL_law_1083 : decode cL_law 1083 = .ok (.iconst 0, 1) := by decide +kernel
theorem dL_law_1084 : decode cL_law 1084 = .ok (.ireturn, 1) := by decide +kernel
theorem dL_law_1085 : decode cL_law 1085 = .ok (.aload_n 1, 1) := by decide +kernel
theorem dL_law_1086 : decode cL_law 1086 = .ok (.invokevirtual 120, 3) := by decide +kernel
theorem dL_law_1089 : decode cL_law 1089 = .ok (.aload_n 2, 1) := by decide +kernel
theorem dL_law_1090 : decode cL_law 1090 = .ok (.invokevirtual 123, 3) := by decide +kernel
theorem dL_law_1093 : decode cL_law 1093 = .ok (.if_icmp .eq 278, 3) := by decide +kernel
theorem dL_law_1096 : decode cL_law 1096 = .ok (.iconst 0, 1) := by decide +kernel
theorem dL_law_1097 : decode cL_law 1097 = .ok (.ireturn, 1) := by decide +kernel
theorem dL_law_1098 : decode cL_law 1098 = .ok (.aload_n 1, 1) := by decide +kernel
theorem dL_law_1099 : decode cL_law 1099 = .ok (.aload_n 0, 1) := by decide +kernel
theorem dL_law_1100 : decode cL_law 1100 = .ok (.iload_n 3, 1) := by decide +kernel
theorem dL_law_1101 : decode cL_law 1101 = .ok (.iconst 1, 1) := by decide +kernel
theorem dL_law_1102 : decode cL_law 1102 = .ok (.iadd, 1) := by decide +kernel
theorem dL_law_1103 : decode cL_law 1103 = .ok (.iaload, 1) := by decide +kernel
theorem dL_law_1104 : decode cL_law 1104 = .ok (.aload_n 0, 1) := by decide +kernel
theorem dL_law_1105 : decode cL_law 1105 = .ok (.iload_n 3, 1) := by decide +kernel
theorem dL_law_1106 : decode cL_law 1106 = .ok (.iconst 2, 1) := by decide +kernel
theorem dL_law_1107 : decode cL_law 1107 = .ok (.iadd, 1) := by decide +kernel
theorem dL_law_1108 : decode cL_law 1108 = .ok (.iaload, 1) := by decide +kernel
theorem dL_law_1109 : decode cL_law 1109 = .ok (.invokevirtual 124, 3) := by decide +kernel
theorem dL_law_1112 : decode cL_law 1112 = .ok (.aload_n 2, 1) := by decide +kernel
theorem dL_law_1113 : decode cL_law 1113 = .ok (.aload_n 0, 1) := by decide +kernel
theorem dL_law_1114 : decode cL_law 1114 = .ok (.iload_n 3, 1) := by decide +kernel
theorem dL_law_1115 : decode cL_law 1115 = .ok (.iconst 1, 1) := by decide +kernel
theorem dL_law_1116 : decode cL_law 1116 = .ok (.iadd, 1) := by decide +kernel
theorem dL_law_1117 : decode cL_law 1117 = .ok (.iaload, 1) := by decide +kernel
theorem dL_law_1118 : decode cL_law 1118 = .ok (.aload_n 0, 1) := by decide +kernel
theorem dL_law_1119 : decode cL_law 1119 = .ok (.iload_n 3, 1) := by decide +kernel
theorem dL_law_1120 : decode cL_law 1120 = .ok (.iconst 2, 1) := by decide +kernel
theorem dL_law_1121 : decode cL_law 1121 = .ok (.iadd, 1) := by decide +kernel
theorem dL_law_1122 : decode cL_law 1122 = .ok (.iaload, 1) := by decide +kernel
theorem dL_law_1123 : decode cL_law 1123 = .ok (.invokevirtual 127, 3) := by decide +kernel
theorem dL_law_1126 : decode cL_law 1126 = .ok (.if_icmp .eq 245, 3) := by decide +kernel
theorem dL_law_1129 : decode cL_law 1129 = .ok (.iconst 0, 1) := by decide +kernel
theorem dL_law_1130 : decode cL_law 1130 = .ok (.ireturn, 1) := by decide +kernel
theorem dL_law_1131 : decode cL_law 1131 = .ok (.aload_n 1, 1) := by decide +kernel
theorem dL_law_1132 : decode cL_law 1132 = .ok (.aload_n 0, 1) := by decide +kernel
theorem dL_law_1133 : decode cL_law 1133 = .ok (.iload_n 3, 1) := by decide +kernel
theorem dL_law_1134 : decode cL_law 1134 = .ok (.iconst 1, 1) := by decide +kernel
theorem dL_law_1135 : decode cL_law 1135 = .ok (.iadd, 1) := by decide +kernel
theorem dL_law_1136 : decode cL_law 1136 = .ok (.iaload, 1) := by decide +kernel
theorem dL_law_1137 : decode cL_law 1137 = .ok (.invokevirtual 128, 3) := by decide +kernel
theorem dL_law_1140 : decode cL_law 1140 = .ok (.aload_n 2, 1) := by decide +kernel
theorem dL_law_1141 : decode cL_law 1141 = .ok (.aload_n 0, 1) := by decide +kernel
theorem dL_law_1142 : decode cL_law 1142 = .ok (.iload_n 3, 1) := by decide +kernel
theorem dL_law_1143 : decode cL_law 1143 = .ok (.iconst 1, 1) := by decide +kernel
theorem dL_law_1144 : decode cL_law 1144 = .ok (.iadd, 1) := by decide +kernel
theorem dL_law_1145 : decode cL_law 1145 = .ok (.iaload, 1) := by decide +kernel
theorem dL_law_1146 : decode cL_law 1146 = .ok (.invokevirtual 131, 3) := by decide +kernel
theorem dL_law_1149 : decode cL_law 1149 = .ok (.if_icmp .eq 222, 3) := by decide +kernel
theorem dL_law_1152 : decode cL_law 1152 = .ok (.iconst 0, 1) := by decide +kernel
theorem dL_law_1153 : decode cL_law 1153 = .ok (.ireturn, 1) := by decide +kernel
theorem dL_law_1154 : decode cL_law 1154 = .ok (.aload_n 1, 1) := by decide +kernel
theorem dL_law_1155 : decode cL_law 1155 = .ok (.aload_n 0, 1) := by decide +kernel
theorem dL_law_1156 : decode cL_law 1156 = .ok (.iload_n 3, 1) := by decide +kernel
theorem dL_law_1157 : decode cL_law 1157 = .ok (.iconst 1, 1) := by decide +kernel
theorem dL_law_1158 : decode cL_law 1158 = .ok (.iadd, 1) := by decide +kernel
theorem dL_law_1159 : decode cL_law 1159 = .ok (.iaload, 1) := by decide +kernel
theorem dL_law_1160 : decode cL_law 1160 = .ok (.aload_n 0, 1) := by decide +kernel
theorem dL_law_1161 : decode cL_law 1161 = .ok (.iload_n 3, 1) := by decide +kernel
theorem dL_law_1162 : decode cL_law 1162 = .ok (.iconst 2, 1) := by decide +kernel
theorem dL_law_1163 : decode cL_law 1163 = .ok (.iadd, 1) := by decide +kernel
theorem dL_law_1164 : decode cL_law 1164 = .ok (.iaload, 1) := by decide +kernel
theorem dL_law_1165 : decode cL_law 1165 = .ok (.aload_n 0, 1) := by decide +kernel
theorem dL_law_1166 : decode cL_law 1166 = .ok (.iload_n 3, 1) := by decide +kernel
theorem dL_law_1167 : decode cL_law 1167 = .ok (.iconst 3, 1) := by decide +kernel
theorem dL_law_1168 : decode cL_law 1168 = .ok (.iadd, 1) := by decide +kernel
theorem dL_law_1169 : decode cL_law 1169 = .ok (.iaload, 1) := by decide +kernel
theorem dL_law_1170 : decode cL_law 1170 = .ok (.invokevirtual 132, 3) := by decide +kernel
theorem dL_law_1173 : decode cL_law 1173 = .ok (.aload_n 2, 1) := by decide +kernel
theorem dL_law_1174 : decode cL_law 1174 = .ok (.aload_n 0, 1) := by decide +kernel
theorem dL_law_1175 : decode cL_law 1175 = .ok (.iload_n 3, 1) := by decide +kernel
theorem dL_law_1176 : decode cL_law 1176 = .ok (.iconst 1, 1) := by decide +kernel
theorem dL_law_1177 : decode cL_law 1177 = .ok (.iadd, 1) := by decide +kernel
theorem dL_law_1178 : decode cL_law 1178 = .ok (.iaload, 1) := by decide +kernel
theorem dL_law_1179 : decode cL_law 1179 = .ok (.aload_n 0, 1) := by decide +kernel
theorem dL_law_1180 : decode cL_law 1180 = .ok (.iload_n 3, 1) := by decide +kernel
theorem dL_law_1181 : decode cL_law 1181 = .ok (.iconst 2, 1) := by decide +kernel
theorem dL_law_1182 : decode cL_law 1182 = .ok (.iadd, 1) := by decide +kernel
theorem dL_law_1183 : decode cL_law 1183 = .ok (.iaload, 1) := by decide +kernel
theorem dL_law_1184 : decode cL_law 1184 = .ok (.aload_n 0, 1) := by decide +kernel
theorem dL_law_1185 : decode cL_law 1185 = .ok (.iload_n 3, 1) := by decide +kernel
theorem dL_law_1186 : decode cL_law 1186 = .ok (.iconst 3, 1) := by decide +kernel
theorem dL_law_1187 : decode cL_law 1187 = .ok (.iadd, 1) := by decide +kernel
theorem dL_law_1188 : decode cL_law 1188 = .ok (.iaload, 1) := by decide +kernel
theorem dL_law_1189 : decode cL_law 1189 = .ok (.invokevirtual 135, 3) := by decide +kernel
theorem dL_law_1192 : decode cL_law 1192 = .ok (.if_icmp .eq 179, 3) := by decide +kernel
theorem dL_law_1195 : decode cL_law 1195 = .ok (.iconst 0, 1) := by decide +kernel
theorem dL_law_1196 : decode cL_law 1196 = .ok (.ireturn, 1) := by decide +kernel
theorem dL_law_1197 : decode cL_law 1197 = .ok (.aload_n 1, 1) := by decide +kernel
theorem dL_law_1198 : decode cL_law 1198 = .ok (.invokevirtual 136, 3) := by decide +kernel
theorem dL_law_1201 : decode cL_law 1201 = .ok (.aload_n 2, 1) := by decide +kernel
theorem dL_law_1202 : decode cL_law 1202 = .ok (.invokevirtual 139, 3) := by decide +kernel
theorem dL_law_1205 : decode cL_law 1205 = .ok (.if_icmp .eq 166, 3) := by decide +kernel
theorem dL_law_1208 : decode cL_law 1208 = .ok (.iconst 0, 1) := by decide +kernel
theorem dL_law_1209 : decode cL_law 1209 = .ok (.ireturn, 1) := by decide +kernel
theorem dL_law_1210 : decode cL_law 1210 = .ok (.aload_n 1, 1) := by decide +kernel
theorem dL_law_1211 : decode cL_law 1211 = .ok (.aload_n 0, 1) := by decide +kernel
theorem dL_law_1212 : decode cL_law 1212 = .ok (.iload_n 3, 1) := by decide +kernel
theorem dL_law_1213 : decode cL_law 1213 = .ok (.iconst 1, 1) := by decide +kernel
theorem dL_law_1214 : decode cL_law 1214 = .ok (.iadd, 1) := by decide +kernel
theorem dL_law_1215 : decode cL_law 1215 = .ok (.iaload, 1) := by decide +kernel
theorem dL_law_1216 : decode cL_law 1216 = .ok (.aload_n 0, 1) := by decide +kernel
theorem dL_law_1217 : decode cL_law 1217 = .ok (.iload_n 3, 1) := by decide +kernel
theorem dL_law_1218 : decode cL_law 1218 = .ok (.iconst 2, 1) := by decide +kernel
theorem dL_law_1219 : decode cL_law 1219 = .ok (.iadd, 1) := by decide +kernel
theorem dL_law_1220 : decode cL_law 1220 = .ok (.iaload, 1) := by decide +kernel
theorem dL_law_1221 : decode cL_law 1221 = .ok (.invokevirtual 140, 3) := by decide +kernel
theorem dL_law_1224 : decode cL_law 1224 = .ok (.aload_n 2, 1) := by decide +kernel
theorem dL_law_1225 : decode cL_law 1225 = .ok (.aload_n 0, 1) := by decide +kernel
theorem dL_law_1226 : decode cL_law 1226 = .ok (.iload_n 3, 1) := by decide +kernel
theorem dL_law_1227 : decode cL_law 1227 = .ok (.iconst 1, 1) := by decide +kernel
theorem dL_law_1228 : decode cL_law 1228 = .ok (.iadd, 1) := by decide +kernel
theorem dL_law_1229 : decode cL_law 1229 = .ok (.iaload, 1) := by decide +kernel
theorem dL_law_1230 : decode cL_law 1230 = .ok (.aload_n 0, 1) := by decide +kernel
theorem dL_law_1231 : decode cL_law 1231 = .ok (.iload_n 3, 1) := by decide +kernel
theorem dL_law_1232 : decode cL_law 1232 = .ok (.iconst 2, 1) := by decide +kernel
theorem dL_law_1233 : decode cL_law 1233 = .ok (.iadd, 1) := by decide +kernel
theorem dL_law_1234 : decode cL_law 1234 = .ok (.iaload, 1) := by decide +kernel
theorem dL_law_1235 : decode cL_law 1235 = .ok (.invokevirtual 143, 3) := by decide +kernel
theorem dL_law_1238 : decode cL_law 1238 = .ok (.if_icmp .eq 133, 3) := by decide +kernel
theorem dL_law_1241 : decode cL_law 1241 = .ok (.iconst 0, 1) := by decide +kernel
theorem dL_law_1242 : decode cL_law 1242 = .ok (.ireturn, 1) := by decide +kernel
theorem dL_law_1243 : decode cL_law 1243 = .ok (.aload_n 1, 1) := by decide +kernel
theorem dL_law_1244 : decode cL_law 1244 = .ok (.aload_n 0, 1) := by decide +kernel
theorem dL_law_1245 : decode cL_law 1245 = .ok (.iload_n 3, 1) := by decide +kernel
theorem dL_law_1246 : decode cL_law 1246 = .ok (.iconst 1, 1) := by decide +kernel
theorem dL_law_1247 : decode cL_law 1247 = .ok (.iadd, 1) := by decide +kernel
theorem dL_law_1248 : decode cL_law 1248 = .ok (.iaload, 1) := by decide +kernel
theorem dL_law_1249 : decode cL_law 1249 = .ok (.aload_n 0, 1) := by decide +kernel
theorem dL_law_1250 : decode cL_law 1250 = .ok (.iload_n 3, 1) := by decide +kernel
theorem dL_law_1251 : decode cL_law 1251 = .ok (.iconst 2, 1) := by decide +kernel
theorem dL_law_1252 : decode cL_law 1252 = .ok (.iadd, 1) := by decide +kernel
theorem dL_law_1253 : decode cL_law 1253 = .ok (.iaload, 1) := by decide +kernel
theorem dL_law_1254 : decode cL_law 1254 = .ok (.invokevirtual 144, 3) := by decide +kernel
theorem dL_law_1257 : decode cL_law 1257 = .ok (.aload_n 2, 1) := by decide +kernel
theorem dL_law_1258 : decode cL_law 1258 = .ok (.aload_n 0, 1) := by decide +kernel
theorem dL_law_1259 : decode cL_law 1259 = .ok (.iload_n 3, 1) := by decide +kernel
theorem dL_law_1260 : decode cL_law 1260 = .ok (.iconst 1, 1) := by decide +kernel
theorem dL_law_1261 : decode cL_law 1261 = .ok (.iadd, 1) := by decide +kernel
theorem dL_law_1262 : decode cL_law 1262 = .ok (.iaload, 1) := by decide +kernel
theorem dL_law_1263 : decode cL_law 1263 = .ok (.aload_n 0, 1) := by decide +kernel
theorem dL_law_1264 : decode cL_law 1264 = .ok (.iload_n 3, 1) := by decide +kernel
theorem dL_law_1265 : decode cL_law 1265 = .ok (.iconst 2, 1) := by decide +kernel
theorem dL_law_1266 : decode cL_law 1266 = .ok (.iadd, 1) := by decide +kernel
theorem dL_law_1267 : decode cL_law 1267 = .ok (.iaload, 1) := by decide +kernel
theorem dL_law_1268 : decode cL_law 1268 = .ok (.invokevirtual 147, 3) := by decide +kernel
theorem dL_law_1271 : decode cL_law 1271 = .ok (.if_icmp .eq 100, 3) := by decide +kernel
theorem dL_law_1274 : decode cL_law 1274 = .ok (.iconst 0, 1) := by decide +kernel
theorem dL_law_1275 : decode cL_law 1275 = .ok (.ireturn, 1) := by decide +kernel
theorem dL_law_1276 : decode cL_law 1276 = .ok (.aload_n 1, 1) := by decide +kernel
theorem dL_law_1277 : decode cL_law 1277 = .ok (.aload_n 0, 1) := by decide +kernel
theorem dL_law_1278 : decode cL_law 1278 = .ok (.iload_n 3, 1) := by decide +kernel
theorem dL_law_1279 : decode cL_law 1279 = .ok (.iconst 1, 1) := by decide +kernel
theorem dL_law_1280 : decode cL_law 1280 = .ok (.iadd, 1) := by decide +kernel
theorem dL_law_1281 : decode cL_law 1281 = .ok (.iaload, 1) := by decide +kernel
theorem dL_law_1282 : decode cL_law 1282 = .ok (.aload_n 0, 1) := by decide +kernel
theorem dL_law_1283 : decode cL_law 1283 = .ok (.iload_n 3, 1) := by decide +kernel
theorem dL_law_1284 : decode cL_law 1284 = .ok (.iconst 2, 1) := by decide +kernel
theorem dL_law_1285 : decode cL_law 1285 = .ok (.iadd, 1) := by decide +kernel
theorem dL_law_1286 : decode cL_law 1286 = .ok (.iaload, 1) := by decide +kernel
theorem dL_law_1287 : decode cL_law 1287 = .ok (.invokevirtual 148, 3) := by decide +kernel
theorem dL_law_1290 : decode cL_law 1290 = .ok (.aload_n 2, 1) := by decide +kernel
theorem dL_law_1291 : decode cL_law 1291 = .ok (.aload_n 0, 1) := by decide +kernel
theorem dL_law_1292 : decode cL_law 1292 = .ok (.iload_n 3, 1) := by decide +kernel
theorem dL_law_1293 : decode cL_law 1293 = .ok (.iconst 1, 1) := by decide +kernel
theorem dL_law_1294 : decode cL_law 1294 = .ok (.iadd, 1) := by decide +kernel
theorem dL_law_1295 : decode cL_law 1295 = .ok (.iaload, 1) := by decide +kernel
theorem dL_law_1296 : decode cL_law 1296 = .ok (.aload_n 0, 1) := by decide +kernel
theorem dL_law_1297 : decode cL_law 1297 = .ok (.iload_n 3, 1) := by decide +kernel
theorem dL_law_1298 : decode cL_law 1298 = .ok (.iconst 2, 1) := by decide +kernel
theorem dL_law_1299 : decode cL_law 1299 = .ok (.iadd, 1) := by decide +kernel
theorem dL_law_1300 : decode cL_law 1300 = .ok (.iaload, 1) := by decide +kernel
theorem dL_law_1301 : decode cL_law 1301 = .ok (.invokevirtual 151, 3) := by decide +kernel
theorem dL_law_1304 : decode cL_law 1304 = .ok (.if_icmp .eq 67, 3) := by decide +kernel
theorem dL_law_1307 : decode cL_law 1307 = .ok (.iconst 0, 1) := by decide +kernel
theorem dL_law_1308 : decode cL_law 1308 = .ok (.ireturn, 1) := by decide +kernel
theorem dL_law_1309 : decode cL_law 1309 = .ok (.aload_n 1, 1) := by decide +kernel
theorem dL_law_1310 : decode cL_law 1310 = .ok (.invokevirtual 152, 3) := by decide +kernel
theorem dL_law_1313 : decode cL_law 1313 = .ok (.aload_n 2, 1) := by decide +kernel
theorem dL_law_1314 : decode cL_law 1314 = .ok (.invokevirtual 155, 3) := by decide +kernel
theorem dL_law_1317 : decode cL_law 1317 = .ok (.if_icmp .eq 54, 3) := by decide +kernel
theorem dL_law_1320 : decode cL_law 1320 = .ok (.iconst 0, 1) := by decide +kernel
theorem dL_law_1321 : decode cL_law 1321 = .ok (.ireturn, 1) := by decide +kernel
theorem dL_law_1322 : decode cL_law 1322 = .ok (.aload_n 1, 1) := by decide +kernel
theorem dL_law_1323 : decode cL_law 1323 = .ok (.aload_n 0, 1) := by decide +kernel
theorem dL_law_1324 : decode cL_law 1324 = .ok (.iload_n 3, 1) := by decide +kernel
theorem dL_law_1325 : decode cL_law 1325 = .ok (.iconst 1, 1) := by decide +kernel
theorem dL_law_1326 : decode cL_law 1326 = .ok (.iadd, 1) := by decide +kernel
theorem dL_law_1327 : decode cL_law 1327 = .ok (.iaload, 1) := by decide +kernel
theorem dL_law_1328 : decode cL_law 1328 = .ok (.invokevirtual 156, 3) := by decide +kernel
theorem dL_law_1331 : decode cL_law 1331 = .ok (.aload_n 2, 1) := by decide +kernel
theorem dL_law_1332 : decode cL_law 1332 = .ok (.aload_n 0, 1) := by decide +kernel
theorem dL_law_1333 : decode cL_law 1333 = .ok (.iload_n 3, 1) := by decide +kernel
theorem dL_law_1334 : decode cL_law 1334 = .ok (.iconst 1, 1) := by decide +kernel
theorem dL_law_1335 : decode cL_law 1335 = .ok (.iadd, 1) := by decide +kernel
theorem dL_law_1336 : decode cL_law 1336 = .ok (.iaload, 1) := by decide +kernel
theorem dL_law_1337 : decode cL_law 1337 = .ok (.invokevirtual 159, 3) := by decide +kernel
theorem dL_law_1340 : decode cL_law 1340 = .ok (.if_icmp .eq 31, 3) := by decide +kernel
theorem dL_law_1343 : decode cL_law 1343 = .ok (.iconst 0, 1) := by decide +kernel
theorem dL_law_1344 : decode cL_law 1344 = .ok (.ireturn, 1) := by decide +kernel
theorem dL_law_1345 : decode cL_law 1345 = .ok (.aload_n 1, 1) := by decide +kernel
theorem dL_law_1346 : decode cL_law 1346 = .ok (.invokevirtual 160, 3) := by decide +kernel
theorem dL_law_1349 : decode cL_law 1349 = .ok (.aload_n 2, 1) := by decide +kernel
theorem dL_law_1350 : decode cL_law 1350 = .ok (.invokevirtual 163, 3) := by decide +kernel
theorem dL_law_1353 : decode cL_law 1353 = .ok (.if_icmp .eq 18, 3) := by decide +kernel
theorem dL_law_1356 : decode cL_law 1356 = .ok (.iconst 0, 1) := by decide +kernel
theorem dL_law_1357 : decode cL_law 1357 = .ok (.ireturn, 1) := by decide +kernel
theorem dL_law_1358 : decode cL_law 1358 = .ok (.aload_n 1, 1) := by decide +kernel
theorem dL_law_1359 : decode cL_law 1359 = .ok (.invokevirtual 164, 3) := by decide +kernel
theorem dL_law_1362 : decode cL_law 1362 = .ok (.aload_n 2, 1) := by decide +kernel
theorem dL_law_1363 : decode cL_law 1363 = .ok (.invokevirtual 167, 3) := by decide +kernel
theorem dL_law_1366 : decode cL_law 1366 = .ok (.if_icmp .eq 5, 3) := by decide +kernel
theorem dL_law_1369 : decode cL_law 1369 = .ok (.iconst 0, 1) := by decide +kernel
theorem dL_law_1370 : decode cL_law 1370 = .ok (.ireturn, 1) := by decide +kernel
theorem dL_law_1371 : decode cL_law 1371 = .ok (.iinc 3 7, 3) := by decide +kernel
theorem dL_law_1374 : decode cL_law 1374 = .ok (.goto (-1356), 3) := by decide +kernel
theorem dL_law_1377 : decode cL_law 1377 = .ok (.iconst 1, 1) := by decide +kernel
theorem dL_law_1378 : decode cL_law 1378 = .ok (.ireturn, 1) := by decide +kernel
section LAW
def GoF (E : EV) (X : AX) (ls : Array Slot) (k n pc : Nat) (st : List AV) (h : AH) : Prop :=
  match X with
  | (p, l, e, R, s, m, args, below, meth, c, Q) => ∀ (H : Heap) (locs : List Loc), Rel E h H → va_S (fun q => E.1 ≤ q) s.heap H locs → W p l e R s m args below meth c H locs k n Q (F0 m pc ls (st.map (toV E)))
/-- the law's context: its locals, its script -/
def LC (E : EV) (X : AX) (ls : Array Slot) (b L : Nat) (xs : Nat → Int32) (i : Int32) : Prop :=
  Cb E X code RL 4 room_1 ∧ lv_has ls 4 [(0, .ref b), (1, toV E (aP (some 0))), (2, toV E (aP (some 313))), (3, .int i)] ∧ va_X b L xs X.2.2.2.2.1 X.2.2.2.2.1.heap ∧ b < X.2.2.2.2.1.heap.size ∧ E.1 = X.2.2.2.2.1.heap.size
variable {E : EV} {X : AX} {ls : Array Slot} {b L : Nat} {xs : Nat → Int32} {i : Int32} {k n pc : Nat} {st : List AV} {h : AH}
theorem f_x (G : LC E X ls b L xs i) (d : decode code pc = .ok (.aload_n 1, 1)) (g : GoF E X ls k n (pc + 1) (aP (some 0) :: st) h) : GoF E X ls k n pc st h := by
  obtain ⟨p, l, e, R, s, m, args, below, meth, c, Q⟩ := X
  obtain ⟨⟨hx, hb, hml, hown, hts, hK, hSt, hNW, hbs, rfl⟩, hl, hX, hbl, hE⟩ := G
  intro H locs hR hS
  exact lv_aload_n hx hb d rfl (lv_at hl 1 rfl) (g H locs hR hS)
theorem f_m (G : LC E X ls b L xs i) (d : decode code pc = .ok (.aload_n 2, 1)) (g : GoF E X ls k n (pc + 1) (aP (some 313) :: st) h) : GoF E X ls k n pc st h := by
  obtain ⟨p, l, e, R, s, m, args, below, meth, c, Q⟩ := X
  obtain ⟨⟨hx, hb, hml, hown, hts, hK, hSt, hNW, hbs, rfl⟩, hl, hX, hbl, hE⟩ := G
  intro H locs hR hS
  exact lv_aload_n hx hb d rfl (lv_at hl 2 rfl) (g H locs hR hS)
theorem f_sc {j : Int} {v : Int32} (G : LC E X ls b L xs i) (hv : Int32.ofInt j = v) (hin : vp_in (i + v) L) (d1 : decode code pc = .ok (.aload_n 0, 1)) (d2 : decode code (pc + 1) = .ok (.iload_n 3, 1)) (d3 : decode code (pc + 1 + 1) = .ok (.iconst j, 1)) (d4 : decode code (pc + 1 + 1 + 1) = .ok (.iadd, 1)) (d5 : decode code (pc + 1 + 1 + 1 + 1) = .ok (.iaload, 1)) (g : GoF E X ls k n (pc + 5) (aI (xs (i + v).toNatClampNeg) :: st) h) : GoF E X ls k n pc st h := by
  obtain ⟨p, l, e, R, s, m, args, below, meth, c, Q⟩ := X
  obtain ⟨⟨hx, hb, hml, hown, hts, hK, hSt, hNW, hbs, rfl⟩, hl, hX, hbl, hE⟩ := G
  intro H locs hR hS
  refine lv_aload_n hx hb d1 rfl (lv_at hl 0 rfl) ?_
  refine lv_iload_n hx hb d2 rfl (lv_at hl 3 rfl) ?_
  refine lv_iconst hx hb d3 hv ?_
  refine lv_iadd hx hb d4 ?_
  exact va_sld hx hb hX hbl (by rw [hE]; exact Nat.not_le.mpr hbl) hS hin d5 (g H locs hR hS)
theorem f_sb {j : Int} {v : Int32} (G : LC E X ls b L xs i) (hv : (Int8.ofInt j).toInt32 = v) (hin : vp_in (i + v) L) (d1 : decode code pc = .ok (.aload_n 0, 1)) (d2 : decode code (pc + 1) = .ok (.iload_n 3, 1)) (d3 : decode code (pc + 1 + 1) = .ok (.bipush j, 2)) (d4 : decode code (pc + 1 + 1 + 2) = .ok (.iadd, 1)) (d5 : decode code (pc + 1 + 1 + 2 + 1) = .ok (.iaload, 1)) (g : GoF E X ls k n (pc + 6) (aI (xs (i + v).toNatClampNeg) :: st) h) : GoF E X ls k n pc st h := by
  obtain ⟨p, l, e, R, s, m, args, below, meth, c, Q⟩ := X
  obtain ⟨⟨hx, hb, hml, hown, hts, hK, hSt, hNW, hbs, rfl⟩, hl, hX, hbl, hE⟩ := G
  intro H locs hR hS
  refine lv_aload_n hx hb d1 rfl (lv_at hl 0 rfl) ?_
  refine lv_iload_n hx hb d2 rfl (lv_at hl 3 rfl) ?_
  refine lv_bipush hx hb d3 hv ?_
  refine lv_iadd hx hb d4 ?_
  exact va_sld hx hb hX hbl (by rw [hE]; exact Nat.not_le.mpr hbl) hS hin d5 (g H locs hR hS)
theorem f_eq {x y : Int32} {off : Int} (G : LC E X ls b L xs i) (d : decode code pc = .ok (.if_icmp .eq off, 3)) (ht : (pc : Int) + off = ((1371 : Nat) : Int)) (he : x = y) (g : GoF E X ls k n 1371 st h) : GoF E X ls k n pc (aI y :: aI x :: st) h := by
  obtain ⟨p, l, e, R, s, m, args, below, meth, c, Q⟩ := X
  obtain ⟨⟨hx, hb, hml, hown, hts, hK, hSt, hNW, hbs, rfl⟩, hl, hX, hbl, hE⟩ := G
  intro H locs hR hS
  exact lv_icmp_eq hx hb d ht (fun _ => g H locs hR hS) (fun q => absurd he q)
theorem f_wide {k' n' : Nat} (hk : k ≤ k') (hn : n ≤ n') (g : GoF E X ls k' n' pc st h) : GoF E X ls k n pc st h := by
  obtain ⟨p, l, e, R, s, m, args, below, meth, c, Q⟩ := X
  intro H locs hR hS
  exact W.widen hk hn (g H locs hR hS)
theorem f_cv {o : Option Nat} {index na ci maxL k' n' : Nat} {y : MethodName} {bytes : ByteArray} {ret : Option FieldType} {rm' : Room} {K : Int32 → AH → Prop} (G : LC E X ls b L xs i) (M : Mt y bytes maxL ret na) (MV : MtV y ci) (hlk : Cond.methodLink RL index y ∈ Wg) (As rest : List AV) (hna : As.length = na) (hst : st = As.reverse ++ aP o :: rest) (hrest : avlen rest ≤ 8)
    (hfr : rm'.frames + 1 ≤ 10 ∧ 8 + (maxL + 11) + rm'.locals ≤ 430) (hf : k + rm'.cells ≤ 600000 ∧ n + rm'.slots ≤ 7302250) (hk' : k + rm'.cells = k') (hn' : n + rm'.slots = n') (d : decode code pc = .ok (.invokevirtual index, 3))
    (w : CV (Spec E y bytes maxL ret rm') o ci As h (kI K)) (g : ∀ (x : Int32) (h' : AH), K x h' → GoF E X ls k' n' (pc + 3) (aI x :: rest) h') : GoF E X ls k n pc st h := by
  obtain ⟨a, vs, post, rfl, ha, sp, hp0⟩ := w
  subst hst; subst hk'; subst hn'; subst hna
  obtain ⟨p, l, e, R, s, m, args, below, meth, c0, Q⟩ := X
  obtain ⟨⟨hx, hb, hml, hown, hts, hK, hSt, hNW, hbs, rfl⟩, hl, hX, hbl, hE⟩ := G
  obtain ⟨M1, M2, M3⟩ := M
  obtain ⟨V1, V2, V3, r, V4, V5⟩ := MV
  intro H locs hR hS
  obtain ⟨r', hr', -, cell, q1, q2, q3, -⟩ := (hR.2 a _ ha).1 V3
  have hcls := (hK.1 ci r V4).2
  have cb : CallW room_1 s args RL y.cls index y bytes maxL ret (.code y bytes maxL ret :: Wg) rm' rm'.cells rm'.slots (As.map (toV E)).length :=
    ⟨callB_of _ hts (goodC M1) rfl rfl rfl (hts _ M2) (hts _ hlk) (by rw [List.length_map]; exact M3) hfr, hts _ V1, hts _ V2⟩
  refine run_go (post := post) (rest := rest.map (toV E)) (mc := rm'.cells) (ms := rm'.slots) (va_runV (As := As.map (toV E)) (b := E.1 + a) (cc := code) (nL := 4) (Ts := Wg) (own := RL) ⟨hx, hb, hml, hown, hts⟩ (sp l) cb ⟨pc_blind, ⟨cell, q1, by rw [q3]; rfl, by rw [q2, ← V5]; exact hcls.1⟩, fun U hU hW => ⟨rfl, wd_of hR hK hSt hNW hbs hS hU hW⟩⟩ rfl rfl hl.1 ?_ ?_ d hf) hS ?_
  · simp only [List.map_append, List.map_reverse, List.map_cons]; rfl
  · exact lv_room (by rw [sum_tr]; exact hrest)
  · intro v h' hp H1 locs1 hR1 hS1
    obtain ⟨x, rfl, hq⟩ := hp0 v h' hp
    exact g x h' hq H1 locs1 hR1 hS1
def PC_0 (E : EV) (h : AH) (K : AH → Prop) (a1 : Int32) : Prop := CV (sX10_appendCharacter E) (some 0) 10 [aI a1] h (kI fun r h => CV (sX11_appendCharacter E) (some 313) 11 [aI a1] h (kI fun r2 h => r = r2 ∧ K h))
theorem lc_0 (G : LC E X ls b L xs i) (hk : k + 4 ≤ 600000) (hn : n + 50 ≤ 7302250) (hin : ∀ j : Nat, j ≤ 6 → vp_in (i + Int32.ofNat j) L) (w : PC_0 E h (fun h => GoF E X ls (k + 4) (n + 50) 1371 [] h) (xs (i + 1).toNatClampNeg)) : GoF E X ls k n 196 [] h := by
  unfold PC_0 at w
  refine f_x G dL_law_196 ?_
  refine f_sc (v := 1) G rfl (hin 1 (by omega)) dL_law_197 dL_law_198 dL_law_199 dL_law_200 dL_law_201 ?_
  refine f_cv (k' := k) (n' := n) (rm' := rmX10_appendCharacter) G mX10_appendCharacter vX10_appendCharacter k348 [aI (xs (i + 1).toNatClampNeg)] [] rfl rfl (Nat.le_of_ble_eq_true rfl) (by decide) ⟨(by omega : k + 0 ≤ 600000), (by omega : n + 0 ≤ 7302250)⟩ rfl rfl dL_law_202 w (fun r h w => ?_)
  refine f_m G dL_law_205 ?_
  refine f_sc (v := 1) G rfl (hin 1 (by omega)) dL_law_206 dL_law_207 dL_law_208 dL_law_209 dL_law_210 ?_
  refine f_cv (k' := k) (n' := n) (rm' := rmX11_appendCharacter) G mX11_appendCharacter vX11_appendCharacter k1032 [aI (xs (i + 1).toNatClampNeg)] [aI r] rfl rfl (Nat.le_of_ble_eq_true rfl) (by decide) ⟨(by omega : k + 0 ≤ 600000), (by omega : n + 0 ≤ 7302250)⟩ rfl rfl dL_law_211 w (fun r2 h w => ?_)
  refine f_wide (k' := k + 4) (n' := n + 50) (by simp) (by simp) ?_
  exact f_eq G dL_law_214 rfl w.1 (w.2)
def PC_1 (E : EV) (h : AH) (K : AH → Prop) : Prop := CV (sX10_clearText E) (some 0) 10 [] h (kI fun r h => CV (sX11_clearText E) (some 313) 11 [] h (kI fun r2 h => r = r2 ∧ K h))
theorem lc_1 (G : LC E X ls b L xs i) (hk : k + 4 ≤ 600000) (hn : n + 50 ≤ 7302250) (hin : ∀ j : Nat, j ≤ 6 → vp_in (i + Int32.ofNat j) L) (w : PC_1 E h (fun h => GoF E X ls (k + 4) (n + 50) 1371 [] h)) : GoF E X ls k n 219 [] h := by
  unfold PC_1 at w
  refine f_x G dL_law_219 ?_
  refine f_cv (k' := k) (n' := n) (rm' := rmX10_clearText) G mX10_clearText vX10_clearText k358 [] [] rfl rfl (Nat.le_of_ble_eq_true rfl) (by decide) ⟨(by omega : k + 0 ≤ 600000), (by omega : n + 0 ≤ 7302250)⟩ rfl rfl dL_law_220 w (fun r h w => ?_)
  refine f_m G dL_law_223 ?_
  refine f_cv (k' := k) (n' := n) (rm' := rmX11_clearText) G mX11_clearText vX11_clearText k1041 [] [aI r] rfl rfl (Nat.le_of_ble_eq_true rfl) (by decide) ⟨(by omega : k + 0 ≤ 600000), (by omega : n + 0 ≤ 7302250)⟩ rfl rfl dL_law_224 w (fun r2 h w => ?_)
  refine f_wide (k' := k + 4) (n' := n + 50) (by simp) (by simp) ?_
  exact f_eq G dL_law_227 rfl w.1 (w.2)
def PC_2 (E : EV) (h : AH) (K : AH → Prop) (a1 : Int32) : Prop := CV (sX10_loadShape E) (some 0) 10 [aI a1] h (kI fun r h => CV (sX11_loadShape E) (some 313) 11 [aI a1] h (kI fun r2 h => r = r2 ∧ K h))
theorem lc_2 (G : LC E X ls b L xs i) (hk : k + 4 ≤ 600000) (hn : n + 50 ≤ 7302250) (hin : ∀ j : Nat, j ≤ 6 → vp_in (i + Int32.ofNat j) L) (w : PC_2 E h (fun h => GoF E X ls (k + 4) (n + 50) 1371 [] h) (xs (i + 1).toNatClampNeg)) : GoF E X ls k n 232 [] h := by
  unfold PC_2 at w
  refine f_x G dL_law_232 ?_
  refine f_sc (v := 1) G rfl (hin 1 (by omega)) dL_law_233 dL_law_234 dL_law_235 dL_law_236 dL_law_237 ?_
  refine f_cv (k' := (k + 4)) (n' := (n + 50)) (rm' := rmX10_loadShape) G mX10_loadShape vX10_loadShape k362 [aI (xs (i + 1).toNatClampNeg)] [] rfl rfl (Nat.le_of_ble_eq_true rfl) (by decide) ⟨(by omega : k + 4 ≤ 600000), (by omega : n + 50 ≤ 7302250)⟩ rfl rfl dL_law_238 w (fun r h w => ?_)
  refine f_m G dL_law_241 ?_
  refine f_sc (v := 1) G rfl (hin 1 (by omega)) dL_law_242 dL_law_243 dL_law_244 dL_law_245 dL_law_246 ?_
  refine f_cv (k' := (k + 4)) (n' := (n + 50)) (rm' := rmX11_loadShape) G mX11_loadShape vX11_loadShape k1045 [aI (xs (i + 1).toNatClampNeg)] [aI r] rfl rfl (Nat.le_of_ble_eq_true rfl) (by decide) ⟨(by omega : (k + 4) + 0 ≤ 600000), (by omega : (n + 50) + 0 ≤ 7302250)⟩ rfl rfl dL_law_247 w (fun r2 h w => ?_)
  exact f_eq G dL_law_250 rfl w.1 (w.2)
def PC_3 (E : EV) (h : AH) (K : AH → Prop) (a1 : Int32) : Prop := CV (sX10_clearShape E) (some 0) 10 [aI a1] h (kI fun r h => CV (sX11_clearShape E) (some 313) 11 [aI a1] h (kI fun r2 h => r = r2 ∧ K h))
theorem lc_3 (G : LC E X ls b L xs i) (hk : k + 4 ≤ 600000) (hn : n + 50 ≤ 7302250) (hin : ∀ j : Nat, j ≤ 6 → vp_in (i + Int32.ofNat j) L) (w : PC_3 E h (fun h => GoF E X ls (k + 4) (n + 50) 1371 [] h) (xs (i + 1).toNatClampNeg)) : GoF E X ls k n 255 [] h := by
  unfold PC_3 at w
  refine f_x G dL_law_255 ?_
  refine f_sc (v := 1) G rfl (hin 1 (by omega)) dL_law_256 dL_law_257 dL_law_258 dL_law_259 dL_law_260 ?_
  refine f_cv (k' := k) (n' := n) (rm' := rmX10_clearShape) G mX10_clearShape vX10_clearShape k533 [aI (xs (i + 1).toNatClampNeg)] [] rfl rfl (Nat.le_of_ble_eq_true rfl) (by decide) ⟨(by omega : k + 0 ≤ 600000), (by omega : n + 0 ≤ 7302250)⟩ rfl rfl dL_law_261 w (fun r h w => ?_)
  refine f_m G dL_law_264 ?_
  refine f_sc (v := 1) G rfl (hin 1 (by omega)) dL_law_265 dL_law_266 dL_law_267 dL_law_268 dL_law_269 ?_
  refine f_cv (k' := k) (n' := n) (rm' := rmX11_clearShape) G mX11_clearShape vX11_clearShape k1107 [aI (xs (i + 1).toNatClampNeg)] [aI r] rfl rfl (Nat.le_of_ble_eq_true rfl) (by decide) ⟨(by omega : k + 0 ≤ 600000), (by omega : n + 0 ≤ 7302250)⟩ rfl rfl dL_law_270 w (fun r2 h w => ?_)
  refine f_wide (k' := k + 4) (n' := n + 50) (by simp) (by simp) ?_
  exact f_eq G dL_law_273 rfl w.1 (w.2)
def PC_4 (E : EV) (h : AH) (K : AH → Prop) (a1 a2 a3 : Int32) : Prop := CV (sX10_copyShape E) (some 0) 10 [aI a1, aI a2, aI a3] h (kI fun r h => CV (sX11_copyShape E) (some 313) 11 [aI a1, aI a2, aI a3] h (kI fun r2 h => r = r2 ∧ K h))
theorem lc_4 (G : LC E X ls b L xs i) (hk : k + 4 ≤ 600000) (hn : n + 50 ≤ 7302250) (hin : ∀ j : Nat, j ≤ 6 → vp_in (i + Int32.ofNat j) L) (w : PC_4 E h (fun h => GoF E X ls (k + 4) (n + 50) 1371 [] h) (xs (i + 1).toNatClampNeg) (xs (i + 2).toNatClampNeg) (xs (i + 3).toNatClampNeg)) : GoF E X ls k n 278 [] h := by
  unfold PC_4 at w
  refine f_x G dL_law_278 ?_
  refine f_sc (v := 1) G rfl (hin 1 (by omega)) dL_law_279 dL_law_280 dL_law_281 dL_law_282 dL_law_283 ?_
  refine f_sc (v := 2) G rfl (hin 2 (by omega)) dL_law_284 dL_law_285 dL_law_286 dL_law_287 dL_law_288 ?_
  refine f_sc (v := 3) G rfl (hin 3 (by omega)) dL_law_289 dL_law_290 dL_law_291 dL_law_292 dL_law_293 ?_
  refine f_cv (k' := (k + 4)) (n' := (n + 50)) (rm' := rmX10_copyShape) G mX10_copyShape vX10_copyShape k540 [aI (xs (i + 1).toNatClampNeg), aI (xs (i + 2).toNatClampNeg), aI (xs (i + 3).toNatClampNeg)] [] rfl rfl (Nat.le_of_ble_eq_true rfl) (by decide) ⟨(by omega : k + 4 ≤ 600000), (by omega : n + 50 ≤ 7302250)⟩ rfl rfl dL_law_294 w (fun r h w => ?_)
  refine f_m G dL_law_297 ?_
  refine f_sc (v := 1) G rfl (hin 1 (by omega)) dL_law_298 dL_law_299 dL_law_300 dL_law_301 dL_law_302 ?_
  refine f_sc (v := 2) G rfl (hin 2 (by omega)) dL_law_303 dL_law_304 dL_law_305 dL_law_306 dL_law_307 ?_
  refine f_sc (v := 3) G rfl (hin 3 (by omega)) dL_law_308 dL_law_309 dL_law_310 dL_law_311 dL_law_312 ?_
  refine f_cv (k' := (k + 4)) (n' := (n + 50)) (rm' := rmX11_copyShape) G mX11_copyShape vX11_copyShape k1119 [aI (xs (i + 1).toNatClampNeg), aI (xs (i + 2).toNatClampNeg), aI (xs (i + 3).toNatClampNeg)] [aI r] rfl rfl (Nat.le_of_ble_eq_true rfl) (by decide) ⟨(by omega : (k + 4) + 0 ≤ 600000), (by omega : (n + 50) + 0 ≤ 7302250)⟩ rfl rfl dL_law_313 w (fun r2 h w => ?_)
  exact f_eq G dL_law_316 rfl w.1 (w.2)
def PC_5 (E : EV) (h : AH) (K : AH → Prop) (a1 : Int32) : Prop := CV (sX10_pieceCount E) (some 0) 10 [aI a1] h (kI fun r h => CV (sX11_pieceCount E) (some 313) 11 [aI a1] h (kI fun r2 h => r = r2 ∧ K h))
theorem lc_5 (G : LC E X ls b L xs i) (hk : k + 4 ≤ 600000) (hn : n + 50 ≤ 7302250) (hin : ∀ j : Nat, j ≤ 6 → vp_in (i + Int32.ofNat j) L) (w : PC_5 E h (fun h => GoF E X ls (k + 4) (n + 50) 1371 [] h) (xs (i + 1).toNatClampNeg)) : GoF E X ls k n 321 [] h := by
  unfold PC_5 at w
  refine f_x G dL_law_321 ?_
  refine f_sc (v := 1) G rfl (hin 1 (by omega)) dL_law_322 dL_law_323 dL_law_324 dL_law_325 dL_law_326 ?_
  refine f_cv (k' := k) (n' := n) (rm' := rmX10_pieceCount) G mX10_pieceCount vX10_pieceCount k544 [aI (xs (i + 1).toNatClampNeg)] [] rfl rfl (Nat.le_of_ble_eq_true rfl) (by decide) ⟨(by omega : k + 0 ≤ 600000), (by omega : n + 0 ≤ 7302250)⟩ rfl rfl dL_law_327 w (fun r h w => ?_)
  refine f_m G dL_law_330 ?_
  refine f_sc (v := 1) G rfl (hin 1 (by omega)) dL_law_331 dL_law_332 dL_law_333 dL_law_334 dL_law_335 ?_
  refine f_cv (k' := k) (n' := n) (rm' := rmX11_pieceCount) G mX11_pieceCount vX11_pieceCount k1127 [aI (xs (i + 1).toNatClampNeg)] [aI r] rfl rfl (Nat.le_of_ble_eq_true rfl) (by decide) ⟨(by omega : k + 0 ≤ 600000), (by omega : n + 0 ≤ 7302250)⟩ rfl rfl dL_law_336 w (fun r2 h w => ?_)
  refine f_wide (k' := k + 4) (n' := n + 50) (by simp) (by simp) ?_
  exact f_eq G dL_law_339 rfl w.1 (w.2)
def PC_6 (E : EV) (h : AH) (K : AH → Prop) (a1 a2 : Int32) : Prop := CV (sX10_doubleArea E) (some 0) 10 [aI a1, aI a2] h (kI fun r h => CV (sX11_doubleArea E) (some 313) 11 [aI a1, aI a2] h (kI fun r2 h => r = r2 ∧ K h))
theorem lc_6 (G : LC E X ls b L xs i) (hk : k + 4 ≤ 600000) (hn : n + 50 ≤ 7302250) (hin : ∀ j : Nat, j ≤ 6 → vp_in (i + Int32.ofNat j) L) (w : PC_6 E h (fun h => GoF E X ls (k + 4) (n + 50) 1371 [] h) (xs (i + 1).toNatClampNeg) (xs (i + 2).toNatClampNeg)) : GoF E X ls k n 344 [] h := by
  unfold PC_6 at w
  refine f_x G dL_law_344 ?_
  refine f_sc (v := 1) G rfl (hin 1 (by omega)) dL_law_345 dL_law_346 dL_law_347 dL_law_348 dL_law_349 ?_
  refine f_sc (v := 2) G rfl (hin 2 (by omega)) dL_law_350 dL_law_351 dL_law_352 dL_law_353 dL_law_354 ?_
  refine f_cv (k' := k) (n' := n) (rm' := rmX10_doubleArea) G mX10_doubleArea vX10_doubleArea k548 [aI (xs (i + 1).toNatClampNeg), aI (xs (i + 2).toNatClampNeg)] [] rfl rfl (Nat.le_of_ble_eq_true rfl) (by decide) ⟨(by omega : k + 0 ≤ 600000), (by omega : n + 0 ≤ 7302250)⟩ rfl rfl dL_law_355 w (fun r h w => ?_)
  refine f_m G dL_law_358 ?_
  refine f_sc (v := 1) G rfl (hin 1 (by omega)) dL_law_359 dL_law_360 dL_law_361 dL_law_362 dL_law_363 ?_
  refine f_sc (v := 2) G rfl (hin 2 (by omega)) dL_law_364 dL_law_365 dL_law_366 dL_law_367 dL_law_368 ?_
  refine f_cv (k' := k) (n' := n) (rm' := rmX11_doubleArea) G mX11_doubleArea vX11_doubleArea k1131 [aI (xs (i + 1).toNatClampNeg), aI (xs (i + 2).toNatClampNeg)] [aI r] rfl rfl (Nat.le_of_ble_eq_true rfl) (by decide) ⟨(by omega : k + 0 ≤ 600000), (by omega : n + 0 ≤ 7302250)⟩ rfl rfl dL_law_369 w (fun r2 h w => ?_)
  refine f_wide (k' := k + 4) (n' := n + 50) (by simp) (by simp) ?_
  exact f_eq G dL_law_372 rfl w.1 (w.2)
def PC_7 (E : EV) (h : AH) (K : AH → Prop) (a1 : Int32) : Prop := CV (sX10_hullSize E) (some 0) 10 [aI a1] h (kI fun r h => CV (sX11_hullSize E) (some 313) 11 [aI a1] h (kI fun r2 h => r = r2 ∧ K h))
theorem lc_7 (G : LC E X ls b L xs i) (hk : k + 4 ≤ 600000) (hn : n + 50 ≤ 7302250) (hin : ∀ j : Nat, j ≤ 6 → vp_in (i + Int32.ofNat j) L) (w : PC_7 E h (fun h => GoF E X ls (k + 4) (n + 50) 1371 [] h) (xs (i + 1).toNatClampNeg)) : GoF E X ls k n 377 [] h := by
  unfold PC_7 at w
  refine f_x G dL_law_377 ?_
  refine f_sc (v := 1) G rfl (hin 1 (by omega)) dL_law_378 dL_law_379 dL_law_380 dL_law_381 dL_law_382 ?_
  refine f_cv (k' := k) (n' := n) (rm' := rmX10_hullSize) G mX10_hullSize vX10_hullSize k566 [aI (xs (i + 1).toNatClampNeg)] [] rfl rfl (Nat.le_of_ble_eq_true rfl) (by decide) ⟨(by omega : k + 0 ≤ 600000), (by omega : n + 0 ≤ 7302250)⟩ rfl rfl dL_law_383 w (fun r h w => ?_)
  refine f_m G dL_law_386 ?_
  refine f_sc (v := 1) G rfl (hin 1 (by omega)) dL_law_387 dL_law_388 dL_law_389 dL_law_390 dL_law_391 ?_
  refine f_cv (k' := k) (n' := n) (rm' := rmX11_hullSize) G mX11_hullSize vX11_hullSize k1143 [aI (xs (i + 1).toNatClampNeg)] [aI r] rfl rfl (Nat.le_of_ble_eq_true rfl) (by decide) ⟨(by omega : k + 0 ≤ 600000), (by omega : n + 0 ≤ 7302250)⟩ rfl rfl dL_law_392 w (fun r2 h w => ?_)
  refine f_wide (k' := k + 4) (n' := n + 50) (by simp) (by simp) ?_
  exact f_eq G dL_law_395 rfl w.1 (w.2)
def PC_8 (E : EV) (h : AH) (K : AH → Prop) (a1 a2 a3 : Int32) : Prop := CV (sX10_hullVertex E) (some 0) 10 [aI a1, aI a2, aI a3] h (kI fun r h => CV (sX11_hullVertex E) (some 313) 11 [aI a1, aI a2, aI a3] h (kI fun r2 h => r = r2 ∧ K h))
theorem lc_8 (G : LC E X ls b L xs i) (hk : k + 4 ≤ 600000) (hn : n + 50 ≤ 7302250) (hin : ∀ j : Nat, j ≤ 6 → vp_in (i + Int32.ofNat j) L) (w : PC_8 E h (fun h => GoF E X ls (k + 4) (n + 50) 1371 [] h) (xs (i + 1).toNatClampNeg) (xs (i + 2).toNatClampNeg) (xs (i + 3).toNatClampNeg)) : GoF E X ls k n 400 [] h := by
  unfold PC_8 at w
  refine f_x G dL_law_400 ?_
  refine f_sc (v := 1) G rfl (hin 1 (by omega)) dL_law_401 dL_law_402 dL_law_403 dL_law_404 dL_law_405 ?_
  refine f_sc (v := 2) G rfl (hin 2 (by omega)) dL_law_406 dL_law_407 dL_law_408 dL_law_409 dL_law_410 ?_
  refine f_sc (v := 3) G rfl (hin 3 (by omega)) dL_law_411 dL_law_412 dL_law_413 dL_law_414 dL_law_415 ?_
  refine f_cv (k' := k) (n' := n) (rm' := rmX10_hullVertex) G mX10_hullVertex vX10_hullVertex k586 [aI (xs (i + 1).toNatClampNeg), aI (xs (i + 2).toNatClampNeg), aI (xs (i + 3).toNatClampNeg)] [] rfl rfl (Nat.le_of_ble_eq_true rfl) (by decide) ⟨(by omega : k + 0 ≤ 600000), (by omega : n + 0 ≤ 7302250)⟩ rfl rfl dL_law_416 w (fun r h w => ?_)
  refine f_m G dL_law_419 ?_
  refine f_sc (v := 1) G rfl (hin 1 (by omega)) dL_law_420 dL_law_421 dL_law_422 dL_law_423 dL_law_424 ?_
  refine f_sc (v := 2) G rfl (hin 2 (by omega)) dL_law_425 dL_law_426 dL_law_427 dL_law_428 dL_law_429 ?_
  refine f_sc (v := 3) G rfl (hin 3 (by omega)) dL_law_430 dL_law_431 dL_law_432 dL_law_433 dL_law_434 ?_
  refine f_cv (k' := k) (n' := n) (rm' := rmX11_hullVertex) G mX11_hullVertex vX11_hullVertex k1166 [aI (xs (i + 1).toNatClampNeg), aI (xs (i + 2).toNatClampNeg), aI (xs (i + 3).toNatClampNeg)] [aI r] rfl rfl (Nat.le_of_ble_eq_true rfl) (by decide) ⟨(by omega : k + 0 ≤ 600000), (by omega : n + 0 ≤ 7302250)⟩ rfl rfl dL_law_435 w (fun r2 h w => ?_)
  refine f_wide (k' := k + 4) (n' := n + 50) (by simp) (by simp) ?_
  exact f_eq G dL_law_438 rfl w.1 (w.2)
def PC_9 (E : EV) (h : AH) (K : AH → Prop) (a1 a2 : Int32) : Prop := CV (sX10_extent E) (some 0) 10 [aI a1, aI a2] h (kI fun r h => CV (sX11_extent E) (some 313) 11 [aI a1, aI a2] h (kI fun r2 h => r = r2 ∧ K h))
theorem lc_9 (G : LC E X ls b L xs i) (hk : k + 4 ≤ 600000) (hn : n + 50 ≤ 7302250) (hin : ∀ j : Nat, j ≤ 6 → vp_in (i + Int32.ofNat j) L) (w : PC_9 E h (fun h => GoF E X ls (k + 4) (n + 50) 1371 [] h) (xs (i + 1).toNatClampNeg) (xs (i + 2).toNatClampNeg)) : GoF E X ls k n 443 [] h := by
  unfold PC_9 at w
  refine f_x G dL_law_443 ?_
  refine f_sc (v := 1) G rfl (hin 1 (by omega)) dL_law_444 dL_law_445 dL_law_446 dL_law_447 dL_law_448 ?_
  refine f_sc (v := 2) G rfl (hin 2 (by omega)) dL_law_449 dL_law_450 dL_law_451 dL_law_452 dL_law_453 ?_
  refine f_cv (k' := k) (n' := n) (rm' := rmX10_extent) G mX10_extent vX10_extent k596 [aI (xs (i + 1).toNatClampNeg), aI (xs (i + 2).toNatClampNeg)] [] rfl rfl (Nat.le_of_ble_eq_true rfl) (by decide) ⟨(by omega : k + 0 ≤ 600000), (by omega : n + 0 ≤ 7302250)⟩ rfl rfl dL_law_454 w (fun r h w => ?_)
  refine f_m G dL_law_457 ?_
  refine f_sc (v := 1) G rfl (hin 1 (by omega)) dL_law_458 dL_law_459 dL_law_460 dL_law_461 dL_law_462 ?_
  refine f_sc (v := 2) G rfl (hin 2 (by omega)) dL_law_463 dL_law_464 dL_law_465 dL_law_466 dL_law_467 ?_
  refine f_cv (k' := k) (n' := n) (rm' := rmX11_extent) G mX11_extent vX11_extent k1171 [aI (xs (i + 1).toNatClampNeg), aI (xs (i + 2).toNatClampNeg)] [aI r] rfl rfl (Nat.le_of_ble_eq_true rfl) (by decide) ⟨(by omega : k + 0 ≤ 600000), (by omega : n + 0 ≤ 7302250)⟩ rfl rfl dL_law_468 w (fun r2 h w => ?_)
  refine f_wide (k' := k + 4) (n' := n + 50) (by simp) (by simp) ?_
  exact f_eq G dL_law_471 rfl w.1 (w.2)
def PC_10 (E : EV) (h : AH) (K : AH → Prop) (a1 a2 a3 a4 a5 : Int32) : Prop := CV (sX10_sumSize E) (some 0) 10 [aI a1, aI a2, aI a3, aI a4, aI a5] h (kI fun r h => CV (sX11_sumSize E) (some 313) 11 [aI a1, aI a2, aI a3, aI a4, aI a5] h (kI fun r2 h => r = r2 ∧ K h))
theorem lc_10 (G : LC E X ls b L xs i) (hk : k + 4 ≤ 600000) (hn : n + 50 ≤ 7302250) (hin : ∀ j : Nat, j ≤ 6 → vp_in (i + Int32.ofNat j) L) (w : PC_10 E h (fun h => GoF E X ls (k + 4) (n + 50) 1371 [] h) (xs (i + 1).toNatClampNeg) (xs (i + 2).toNatClampNeg) (xs (i + 3).toNatClampNeg) (xs (i + 4).toNatClampNeg) (xs (i + 5).toNatClampNeg)) : GoF E X ls k n 476 [] h := by
  unfold PC_10 at w
  refine f_x G dL_law_476 ?_
  refine f_sc (v := 1) G rfl (hin 1 (by omega)) dL_law_477 dL_law_478 dL_law_479 dL_law_480 dL_law_481 ?_
  refine f_sc (v := 2) G rfl (hin 2 (by omega)) dL_law_482 dL_law_483 dL_law_484 dL_law_485 dL_law_486 ?_
  refine f_sc (v := 3) G rfl (hin 3 (by omega)) dL_law_487 dL_law_488 dL_law_489 dL_law_490 dL_law_491 ?_
  refine f_sc (v := 4) G rfl (hin 4 (by omega)) dL_law_492 dL_law_493 dL_law_494 dL_law_495 dL_law_496 ?_
  refine f_sc (v := 5) G rfl (hin 5 (by omega)) dL_law_497 dL_law_498 dL_law_499 dL_law_500 dL_law_501 ?_
  refine f_cv (k' := k) (n' := n) (rm' := rmX10_sumSize) G mX10_sumSize vX10_sumSize k617 [aI (xs (i + 1).toNatClampNeg), aI (xs (i + 2).toNatClampNeg), aI (xs (i + 3).toNatClampNeg), aI (xs (i + 4).toNatClampNeg), aI (xs (i + 5).toNatClampNeg)] [] rfl rfl (Nat.le_of_ble_eq_true rfl) (by decide) ⟨(by omega : k + 0 ≤ 600000), (by omega : n + 0 ≤ 7302250)⟩ rfl rfl dL_law_502 w (fun r h w => ?_)
  refine f_m G dL_law_505 ?_
  refine f_sc (v := 1) G rfl (hin 1 (by omega)) dL_law_506 dL_law_507 dL_law_508 dL_law_509 dL_law_510 ?_
  refine f_sc (v := 2) G rfl (hin 2 (by omega)) dL_law_511 dL_law_512 dL_law_513 dL_law_514 dL_law_515 ?_
  refine f_sc (v := 3) G rfl (hin 3 (by omega)) dL_law_516 dL_law_517 dL_law_518 dL_law_519 dL_law_520 ?_
  refine f_sc (v := 4) G rfl (hin 4 (by omega)) dL_law_521 dL_law_522 dL_law_523 dL_law_524 dL_law_525 ?_
  refine f_sc (v := 5) G rfl (hin 5 (by omega)) dL_law_526 dL_law_527 dL_law_528 dL_law_529 dL_law_530 ?_
  refine f_cv (k' := k) (n' := n) (rm' := rmX11_sumSize) G mX11_sumSize vX11_sumSize k1190 [aI (xs (i + 1).toNatClampNeg), aI (xs (i + 2).toNatClampNeg), aI (xs (i + 3).toNatClampNeg), aI (xs (i + 4).toNatClampNeg), aI (xs (i + 5).toNatClampNeg)] [aI r] rfl rfl (Nat.le_of_ble_eq_true rfl) (by decide) ⟨(by omega : k + 0 ≤ 600000), (by omega : n + 0 ≤ 7302250)⟩ rfl rfl dL_law_531 w (fun r2 h w => ?_)
  refine f_wide (k' := k + 4) (n' := n + 50) (by simp) (by simp) ?_
  exact f_eq G dL_law_534 rfl w.1 (w.2)
def PC_11 (E : EV) (h : AH) (K : AH → Prop) (a1 a2 a3 a4 a5 a6 : Int32) : Prop := CV (sX10_sumVertex E) (some 0) 10 [aI a1, aI a2, aI a3, aI a4, aI a5, aI a6] h (kI fun r h => CV (sX11_sumVertex E) (some 313) 11 [aI a1, aI a2, aI a3, aI a4, aI a5, aI a6] h (kI fun r2 h => r = r2 ∧ K h))
theorem lc_11 (G : LC E X ls b L xs i) (hk : k + 4 ≤ 600000) (hn : n + 50 ≤ 7302250) (hin : ∀ j : Nat, j ≤ 6 → vp_in (i + Int32.ofNat j) L) (w : PC_11 E h (fun h => GoF E X ls (k + 4) (n + 50) 1371 [] h) (xs (i + 1).toNatClampNeg) (xs (i + 2).toNatClampNeg) (xs (i + 3).toNatClampNeg) (xs (i + 4).toNatClampNeg) (xs (i + 5).toNatClampNeg) (xs (i + 6).toNatClampNeg)) : GoF E X ls k n 539 [] h := by
  unfold PC_11 at w
  refine f_x G dL_law_539 ?_
  refine f_sc (v := 1) G rfl (hin 1 (by omega)) dL_law_540 dL_law_541 dL_law_542 dL_law_543 dL_law_544 ?_
  refine f_sc (v := 2) G rfl (hin 2 (by omega)) dL_law_545 dL_law_546 dL_law_547 dL_law_548 dL_law_549 ?_
  refine f_sc (v := 3) G rfl (hin 3 (by omega)) dL_law_550 dL_law_551 dL_law_552 dL_law_553 dL_law_554 ?_
  refine f_sc (v := 4) G rfl (hin 4 (by omega)) dL_law_555 dL_law_556 dL_law_557 dL_law_558 dL_law_559 ?_
  refine f_sc (v := 5) G rfl (hin 5 (by omega)) dL_law_560 dL_law_561 dL_law_562 dL_law_563 dL_law_564 ?_
  refine f_sb (v := 6) G rfl (hin 6 (by omega)) dL_law_565 dL_law_566 dL_law_567 dL_law_569 dL_law_570 ?_
  refine f_cv (k' := k) (n' := n) (rm' := rmX10_sumVertex) G mX10_sumVertex vX10_sumVertex k637 [aI (xs (i + 1).toNatClampNeg), aI (xs (i + 2).toNatClampNeg), aI (xs (i + 3).toNatClampNeg), aI (xs (i + 4).toNatClampNeg), aI (xs (i + 5).toNatClampNeg), aI (xs (i + 6).toNatClampNeg)] [] rfl rfl (Nat.le_of_ble_eq_true rfl) (by decide) ⟨(by omega : k + 0 ≤ 600000), (by omega : n + 0 ≤ 7302250)⟩ rfl rfl dL_law_571 w (fun r h w => ?_)
  refine f_m G dL_law_574 ?_
  refine f_sc (v := 1) G rfl (hin 1 (by omega)) dL_law_575 dL_law_576 dL_law_577 dL_law_578 dL_law_579 ?_
  refine f_sc (v := 2) G rfl (hin 2 (by omega)) dL_law_580 dL_law_581 dL_law_582 dL_law_583 dL_law_584 ?_
  refine f_sc (v := 3) G rfl (hin 3 (by omega)) dL_law_585 dL_law_586 dL_law_587 dL_law_588 dL_law_589 ?_
  refine f_sc (v := 4) G rfl (hin 4 (by omega)) dL_law_590 dL_law_591 dL_law_592 dL_law_593 dL_law_594 ?_
  refine f_sc (v := 5) G rfl (hin 5 (by omega)) dL_law_595 dL_law_596 dL_law_597 dL_law_598 dL_law_599 ?_
  refine f_sb (v := 6) G rfl (hin 6 (by omega)) dL_law_600 dL_law_601 dL_law_602 dL_law_604 dL_law_605 ?_
  refine f_cv (k' := k) (n' := n) (rm' := rmX11_sumVertex) G mX11_sumVertex vX11_sumVertex k1198 [aI (xs (i + 1).toNatClampNeg), aI (xs (i + 2).toNatClampNeg), aI (xs (i + 3).toNatClampNeg), aI (xs (i + 4).toNatClampNeg), aI (xs (i + 5).toNatClampNeg), aI (xs (i + 6).toNatClampNeg)] [aI r] rfl rfl (Nat.le_of_ble_eq_true rfl) (by decide) ⟨(by omega : k + 0 ≤ 600000), (by omega : n + 0 ≤ 7302250)⟩ rfl rfl dL_law_606 w (fun r2 h w => ?_)
  refine f_wide (k' := k + 4) (n' := n + 50) (by simp) (by simp) ?_
  exact f_eq G dL_law_609 rfl w.1 (w.2)
def PC_12 (E : EV) (h : AH) (K : AH → Prop) (a1 a2 a3 a4 : Int32) : Prop := CV (sX10_sumDoubleArea E) (some 0) 10 [aI a1, aI a2, aI a3, aI a4] h (kI fun r h => CV (sX11_sumDoubleArea E) (some 313) 11 [aI a1, aI a2, aI a3, aI a4] h (kI fun r2 h => r = r2 ∧ K h))
theorem lc_12 (G : LC E X ls b L xs i) (hk : k + 4 ≤ 600000) (hn : n + 50 ≤ 7302250) (hin : ∀ j : Nat, j ≤ 6 → vp_in (i + Int32.ofNat j) L) (w : PC_12 E h (fun h => GoF E X ls (k + 4) (n + 50) 1371 [] h) (xs (i + 1).toNatClampNeg) (xs (i + 2).toNatClampNeg) (xs (i + 3).toNatClampNeg) (xs (i + 4).toNatClampNeg)) : GoF E X ls k n 614 [] h := by
  unfold PC_12 at w
  refine f_x G dL_law_614 ?_
  refine f_sc (v := 1) G rfl (hin 1 (by omega)) dL_law_615 dL_law_616 dL_law_617 dL_law_618 dL_law_619 ?_
  refine f_sc (v := 2) G rfl (hin 2 (by omega)) dL_law_620 dL_law_621 dL_law_622 dL_law_623 dL_law_624 ?_
  refine f_sc (v := 3) G rfl (hin 3 (by omega)) dL_law_625 dL_law_626 dL_law_627 dL_law_628 dL_law_629 ?_
  refine f_sc (v := 4) G rfl (hin 4 (by omega)) dL_law_630 dL_law_631 dL_law_632 dL_law_633 dL_law_634 ?_
  refine f_cv (k' := k) (n' := n) (rm' := rmX10_sumDoubleArea) G mX10_sumDoubleArea vX10_sumDoubleArea k641 [aI (xs (i + 1).toNatClampNeg), aI (xs (i + 2).toNatClampNeg), aI (xs (i + 3).toNatClampNeg), aI (xs (i + 4).toNatClampNeg)] [] rfl rfl (Nat.le_of_ble_eq_true rfl) (by decide) ⟨(by omega : k + 0 ≤ 600000), (by omega : n + 0 ≤ 7302250)⟩ rfl rfl dL_law_635 w (fun r h w => ?_)
  refine f_m G dL_law_638 ?_
  refine f_sc (v := 1) G rfl (hin 1 (by omega)) dL_law_639 dL_law_640 dL_law_641 dL_law_642 dL_law_643 ?_
  refine f_sc (v := 2) G rfl (hin 2 (by omega)) dL_law_644 dL_law_645 dL_law_646 dL_law_647 dL_law_648 ?_
  refine f_sc (v := 3) G rfl (hin 3 (by omega)) dL_law_649 dL_law_650 dL_law_651 dL_law_652 dL_law_653 ?_
  refine f_sc (v := 4) G rfl (hin 4 (by omega)) dL_law_654 dL_law_655 dL_law_656 dL_law_657 dL_law_658 ?_
  refine f_cv (k' := k) (n' := n) (rm' := rmX11_sumDoubleArea) G mX11_sumDoubleArea vX11_sumDoubleArea k1202 [aI (xs (i + 1).toNatClampNeg), aI (xs (i + 2).toNatClampNeg), aI (xs (i + 3).toNatClampNeg), aI (xs (i + 4).toNatClampNeg)] [aI r] rfl rfl (Nat.le_of_ble_eq_true rfl) (by decide) ⟨(by omega : k + 0 ≤ 600000), (by omega : n + 0 ≤ 7302250)⟩ rfl rfl dL_law_659 w (fun r2 h w => ?_)
  refine f_wide (k' := k + 4) (n' := n + 50) (by simp) (by simp) ?_
  exact f_eq G dL_law_662 rfl w.1 (w.2)
def PC_13 (E : EV) (h : AH) (K : AH → Prop) (a1 a2 a3 a4 : Int32) : Prop := CV (sX10_contact E) (some 0) 10 [aI a1, aI a2, aI a3, aI a4] h (kI fun r h => CV (sX11_contact E) (some 313) 11 [aI a1, aI a2, aI a3, aI a4] h (kI fun r2 h => r = r2 ∧ K h))
theorem lc_13 (G : LC E X ls b L xs i) (hk : k + 4 ≤ 600000) (hn : n + 50 ≤ 7302250) (hin : ∀ j : Nat, j ≤ 6 → vp_in (i + Int32.ofNat j) L) (w : PC_13 E h (fun h => GoF E X ls (k + 4) (n + 50) 1371 [] h) (xs (i + 1).toNatClampNeg) (xs (i + 2).toNatClampNeg) (xs (i + 3).toNatClampNeg) (xs (i + 4).toNatClampNeg)) : GoF E X ls k n 667 [] h := by
  unfold PC_13 at w
  refine f_x G dL_law_667 ?_
  refine f_sc (v := 1) G rfl (hin 1 (by omega)) dL_law_668 dL_law_669 dL_law_670 dL_law_671 dL_law_672 ?_
  refine f_sc (v := 2) G rfl (hin 2 (by omega)) dL_law_673 dL_law_674 dL_law_675 dL_law_676 dL_law_677 ?_
  refine f_sc (v := 3) G rfl (hin 3 (by omega)) dL_law_678 dL_law_679 dL_law_680 dL_law_681 dL_law_682 ?_
  refine f_sc (v := 4) G rfl (hin 4 (by omega)) dL_law_683 dL_law_684 dL_law_685 dL_law_686 dL_law_687 ?_
  refine f_cv (k' := k) (n' := n) (rm' := rmX10_contact) G mX10_contact vX10_contact k645 [aI (xs (i + 1).toNatClampNeg), aI (xs (i + 2).toNatClampNeg), aI (xs (i + 3).toNatClampNeg), aI (xs (i + 4).toNatClampNeg)] [] rfl rfl (Nat.le_of_ble_eq_true rfl) (by decide) ⟨(by omega : k + 0 ≤ 600000), (by omega : n + 0 ≤ 7302250)⟩ rfl rfl dL_law_688 w (fun r h w => ?_)
  refine f_m G dL_law_691 ?_
  refine f_sc (v := 1) G rfl (hin 1 (by omega)) dL_law_692 dL_law_693 dL_law_694 dL_law_695 dL_law_696 ?_
  refine f_sc (v := 2) G rfl (hin 2 (by omega)) dL_law_697 dL_law_698 dL_law_699 dL_law_700 dL_law_701 ?_
  refine f_sc (v := 3) G rfl (hin 3 (by omega)) dL_law_702 dL_law_703 dL_law_704 dL_law_705 dL_law_706 ?_
  refine f_sc (v := 4) G rfl (hin 4 (by omega)) dL_law_707 dL_law_708 dL_law_709 dL_law_710 dL_law_711 ?_
  refine f_cv (k' := k) (n' := n) (rm' := rmX11_contact) G mX11_contact vX11_contact k1206 [aI (xs (i + 1).toNatClampNeg), aI (xs (i + 2).toNatClampNeg), aI (xs (i + 3).toNatClampNeg), aI (xs (i + 4).toNatClampNeg)] [aI r] rfl rfl (Nat.le_of_ble_eq_true rfl) (by decide) ⟨(by omega : k + 0 ≤ 600000), (by omega : n + 0 ≤ 7302250)⟩ rfl rfl dL_law_712 w (fun r2 h w => ?_)
  refine f_wide (k' := k + 4) (n' := n + 50) (by simp) (by simp) ?_
  exact f_eq G dL_law_715 rfl w.1 (w.2)
def PC_14 (E : EV) (h : AH) (K : AH → Prop) (a1 a2 a3 a4 a5 : Int32) : Prop := CV (sX10_squaredGap E) (some 0) 10 [aI a1, aI a2, aI a3, aI a4, aI a5] h (kI fun r h => CV (sX11_squaredGap E) (some 313) 11 [aI a1, aI a2, aI a3, aI a4, aI a5] h (kI fun r2 h => r = r2 ∧ K h))
theorem lc_14 (G : LC E X ls b L xs i) (hk : k + 4 ≤ 600000) (hn : n + 50 ≤ 7302250) (hin : ∀ j : Nat, j ≤ 6 → vp_in (i + Int32.ofNat j) L) (w : PC_14 E h (fun h => GoF E X ls (k + 4) (n + 50) 1371 [] h) (xs (i + 1).toNatClampNeg) (xs (i + 2).toNatClampNeg) (xs (i + 3).toNatClampNeg) (xs (i + 4).toNatClampNeg) (xs (i + 5).toNatClampNeg)) : GoF E X ls k n 720 [] h := by
  unfold PC_14 at w
  refine f_x G dL_law_720 ?_
  refine f_sc (v := 1) G rfl (hin 1 (by omega)) dL_law_721 dL_law_722 dL_law_723 dL_law_724 dL_law_725 ?_
  refine f_sc (v := 2) G rfl (hin 2 (by omega)) dL_law_726 dL_law_727 dL_law_728 dL_law_729 dL_law_730 ?_
  refine f_sc (v := 3) G rfl (hin 3 (by omega)) dL_law_731 dL_law_732 dL_law_733 dL_law_734 dL_law_735 ?_
  refine f_sc (v := 4) G rfl (hin 4 (by omega)) dL_law_736 dL_law_737 dL_law_738 dL_law_739 dL_law_740 ?_
  refine f_sc (v := 5) G rfl (hin 5 (by omega)) dL_law_741 dL_law_742 dL_law_743 dL_law_744 dL_law_745 ?_
  refine f_cv (k' := k) (n' := n) (rm' := rmX10_squaredGap) G mX10_squaredGap vX10_squaredGap k666 [aI (xs (i + 1).toNatClampNeg), aI (xs (i + 2).toNatClampNeg), aI (xs (i + 3).toNatClampNeg), aI (xs (i + 4).toNatClampNeg), aI (xs (i + 5).toNatClampNeg)] [] rfl rfl (Nat.le_of_ble_eq_true rfl) (by decide) ⟨(by omega : k + 0 ≤ 600000), (by omega : n + 0 ≤ 7302250)⟩ rfl rfl dL_law_746 w (fun r h w => ?_)
  refine f_m G dL_law_749 ?_
  refine f_sc (v := 1) G rfl (hin 1 (by omega)) dL_law_750 dL_law_751 dL_law_752 dL_law_753 dL_law_754 ?_
  refine f_sc (v := 2) G rfl (hin 2 (by omega)) dL_law_755 dL_law_756 dL_law_757 dL_law_758 dL_law_759 ?_
  refine f_sc (v := 3) G rfl (hin 3 (by omega)) dL_law_760 dL_law_761 dL_law_762 dL_law_763 dL_law_764 ?_
  refine f_sc (v := 4) G rfl (hin 4 (by omega)) dL_law_765 dL_law_766 dL_law_767 dL_law_768 dL_law_769 ?_
  refine f_sc (v := 5) G rfl (hin 5 (by omega)) dL_law_770 dL_law_771 dL_law_772 dL_law_773 dL_law_774 ?_
  refine f_cv (k' := k) (n' := n) (rm' := rmX11_squaredGap) G mX11_squaredGap vX11_squaredGap k1241 [aI (xs (i + 1).toNatClampNeg), aI (xs (i + 2).toNatClampNeg), aI (xs (i + 3).toNatClampNeg), aI (xs (i + 4).toNatClampNeg), aI (xs (i + 5).toNatClampNeg)] [aI r] rfl rfl (Nat.le_of_ble_eq_true rfl) (by decide) ⟨(by omega : k + 0 ≤ 600000), (by omega : n + 0 ≤ 7302250)⟩ rfl rfl dL_law_775 w (fun r2 h w => ?_)
  refine f_wide (k' := k + 4) (n' := n + 50) (by simp) (by simp) ?_
  exact f_eq G dL_law_778 rfl w.1 (w.2)
def PC_15 (E : EV) (h : AH) (K : AH → Prop) (a1 a2 a3 a4 a5 a6 : Int32) : Prop := CV (sX10_slide E) (some 0) 10 [aI a1, aI a2, aI a3, aI a4, aI a5, aI a6] h (kI fun r h => CV (sX11_slide E) (some 313) 11 [aI a1, aI a2, aI a3, aI a4, aI a5, aI a6] h (kI fun r2 h => r = r2 ∧ K h))
theorem lc_15 (G : LC E X ls b L xs i) (hk : k + 4 ≤ 600000) (hn : n + 50 ≤ 7302250) (hin : ∀ j : Nat, j ≤ 6 → vp_in (i + Int32.ofNat j) L) (w : PC_15 E h (fun h => GoF E X ls (k + 4) (n + 50) 1371 [] h) (xs (i + 1).toNatClampNeg) (xs (i + 2).toNatClampNeg) (xs (i + 3).toNatClampNeg) (xs (i + 4).toNatClampNeg) (xs (i + 5).toNatClampNeg) (xs (i + 6).toNatClampNeg)) : GoF E X ls k n 783 [] h := by
  unfold PC_15 at w
  refine f_x G dL_law_783 ?_
  refine f_sc (v := 1) G rfl (hin 1 (by omega)) dL_law_784 dL_law_785 dL_law_786 dL_law_787 dL_law_788 ?_
  refine f_sc (v := 2) G rfl (hin 2 (by omega)) dL_law_789 dL_law_790 dL_law_791 dL_law_792 dL_law_793 ?_
  refine f_sc (v := 3) G rfl (hin 3 (by omega)) dL_law_794 dL_law_795 dL_law_796 dL_law_797 dL_law_798 ?_
  refine f_sc (v := 4) G rfl (hin 4 (by omega)) dL_law_799 dL_law_800 dL_law_801 dL_law_802 dL_law_803 ?_
  refine f_sc (v := 5) G rfl (hin 5 (by omega)) dL_law_804 dL_law_805 dL_law_806 dL_law_807 dL_law_808 ?_
  refine f_sb (v := 6) G rfl (hin 6 (by omega)) dL_law_809 dL_law_810 dL_law_811 dL_law_813 dL_law_814 ?_
  refine f_cv (k' := k) (n' := n) (rm' := rmX10_slide) G mX10_slide vX10_slide k700 [aI (xs (i + 1).toNatClampNeg), aI (xs (i + 2).toNatClampNeg), aI (xs (i + 3).toNatClampNeg), aI (xs (i + 4).toNatClampNeg), aI (xs (i + 5).toNatClampNeg), aI (xs (i + 6).toNatClampNeg)] [] rfl rfl (Nat.le_of_ble_eq_true rfl) (by decide) ⟨(by omega : k + 0 ≤ 600000), (by omega : n + 0 ≤ 7302250)⟩ rfl rfl dL_law_815 w (fun r h w => ?_)
  refine f_m G dL_law_818 ?_
  refine f_sc (v := 1) G rfl (hin 1 (by omega)) dL_law_819 dL_law_820 dL_law_821 dL_law_822 dL_law_823 ?_
  refine f_sc (v := 2) G rfl (hin 2 (by omega)) dL_law_824 dL_law_825 dL_law_826 dL_law_827 dL_law_828 ?_
  refine f_sc (v := 3) G rfl (hin 3 (by omega)) dL_law_829 dL_law_830 dL_law_831 dL_law_832 dL_law_833 ?_
  refine f_sc (v := 4) G rfl (hin 4 (by omega)) dL_law_834 dL_law_835 dL_law_836 dL_law_837 dL_law_838 ?_
  refine f_sc (v := 5) G rfl (hin 5 (by omega)) dL_law_839 dL_law_840 dL_law_841 dL_law_842 dL_law_843 ?_
  refine f_sb (v := 6) G rfl (hin 6 (by omega)) dL_law_844 dL_law_845 dL_law_846 dL_law_848 dL_law_849 ?_
  refine f_cv (k' := k) (n' := n) (rm' := rmX11_slide) G mX11_slide vX11_slide k1263 [aI (xs (i + 1).toNatClampNeg), aI (xs (i + 2).toNatClampNeg), aI (xs (i + 3).toNatClampNeg), aI (xs (i + 4).toNatClampNeg), aI (xs (i + 5).toNatClampNeg), aI (xs (i + 6).toNatClampNeg)] [aI r] rfl rfl (Nat.le_of_ble_eq_true rfl) (by decide) ⟨(by omega : k + 0 ≤ 600000), (by omega : n + 0 ≤ 7302250)⟩ rfl rfl dL_law_850 w (fun r2 h w => ?_)
  refine f_wide (k' := k + 4) (n' := n + 50) (by simp) (by simp) ?_
  exact f_eq G dL_law_853 rfl w.1 (w.2)
def PC_16 (E : EV) (h : AH) (K : AH → Prop) (a1 : Int32) : Prop := CV (sX10_setClearance E) (some 0) 10 [aI a1] h (kI fun r h => CV (sX11_setClearance E) (some 313) 11 [aI a1] h (kI fun r2 h => r = r2 ∧ K h))
theorem lc_16 (G : LC E X ls b L xs i) (hk : k + 4 ≤ 600000) (hn : n + 50 ≤ 7302250) (hin : ∀ j : Nat, j ≤ 6 → vp_in (i + Int32.ofNat j) L) (w : PC_16 E h (fun h => GoF E X ls (k + 4) (n + 50) 1371 [] h) (xs (i + 1).toNatClampNeg)) : GoF E X ls k n 858 [] h := by
  unfold PC_16 at w
  refine f_x G dL_law_858 ?_
  refine f_sc (v := 1) G rfl (hin 1 (by omega)) dL_law_859 dL_law_860 dL_law_861 dL_law_862 dL_law_863 ?_
  refine f_cv (k' := k) (n' := n) (rm' := rmX10_setClearance) G mX10_setClearance vX10_setClearance k716 [aI (xs (i + 1).toNatClampNeg)] [] rfl rfl (Nat.le_of_ble_eq_true rfl) (by decide) ⟨(by omega : k + 0 ≤ 600000), (by omega : n + 0 ≤ 7302250)⟩ rfl rfl dL_law_864 w (fun r h w => ?_)
  refine f_m G dL_law_867 ?_
  refine f_sc (v := 1) G rfl (hin 1 (by omega)) dL_law_868 dL_law_869 dL_law_870 dL_law_871 dL_law_872 ?_
  refine f_cv (k' := k) (n' := n) (rm' := rmX11_setClearance) G mX11_setClearance vX11_setClearance k1277 [aI (xs (i + 1).toNatClampNeg)] [aI r] rfl rfl (Nat.le_of_ble_eq_true rfl) (by decide) ⟨(by omega : k + 0 ≤ 600000), (by omega : n + 0 ≤ 7302250)⟩ rfl rfl dL_law_873 w (fun r2 h w => ?_)
  refine f_wide (k' := k + 4) (n' := n + 50) (by simp) (by simp) ?_
  exact f_eq G dL_law_876 rfl w.1 (w.2)
def PC_17 (E : EV) (h : AH) (K : AH → Prop) (a1 a2 : Int32) : Prop := CV (sX10_setContainer E) (some 0) 10 [aI a1, aI a2] h (kI fun r h => CV (sX11_setContainer E) (some 313) 11 [aI a1, aI a2] h (kI fun r2 h => r = r2 ∧ K h))
theorem lc_17 (G : LC E X ls b L xs i) (hk : k + 4 ≤ 600000) (hn : n + 50 ≤ 7302250) (hin : ∀ j : Nat, j ≤ 6 → vp_in (i + Int32.ofNat j) L) (w : PC_17 E h (fun h => GoF E X ls (k + 4) (n + 50) 1371 [] h) (xs (i + 1).toNatClampNeg) (xs (i + 2).toNatClampNeg)) : GoF E X ls k n 881 [] h := by
  unfold PC_17 at w
  refine f_x G dL_law_881 ?_
  refine f_sc (v := 1) G rfl (hin 1 (by omega)) dL_law_882 dL_law_883 dL_law_884 dL_law_885 dL_law_886 ?_
  refine f_sc (v := 2) G rfl (hin 2 (by omega)) dL_law_887 dL_law_888 dL_law_889 dL_law_890 dL_law_891 ?_
  refine f_cv (k' := k) (n' := n) (rm' := rmX10_setContainer) G mX10_setContainer vX10_setContainer k750 [aI (xs (i + 1).toNatClampNeg), aI (xs (i + 2).toNatClampNeg)] [] rfl rfl (Nat.le_of_ble_eq_true rfl) (by decide) ⟨(by omega : k + 0 ≤ 600000), (by omega : n + 0 ≤ 7302250)⟩ rfl rfl dL_law_892 w (fun r h w => ?_)
  refine f_m G dL_law_895 ?_
  refine f_sc (v := 1) G rfl (hin 1 (by omega)) dL_law_896 dL_law_897 dL_law_898 dL_law_899 dL_law_900 ?_
  refine f_sc (v := 2) G rfl (hin 2 (by omega)) dL_law_901 dL_law_902 dL_law_903 dL_law_904 dL_law_905 ?_
  refine f_cv (k' := k) (n' := n) (rm' := rmX11_setContainer) G mX11_setContainer vX11_setContainer k1292 [aI (xs (i + 1).toNatClampNeg), aI (xs (i + 2).toNatClampNeg)] [aI r] rfl rfl (Nat.le_of_ble_eq_true rfl) (by decide) ⟨(by omega : k + 0 ≤ 600000), (by omega : n + 0 ≤ 7302250)⟩ rfl rfl dL_law_906 w (fun r2 h w => ?_)
  refine f_wide (k' := k + 4) (n' := n + 50) (by simp) (by simp) ?_
  exact f_eq G dL_law_909 rfl w.1 (w.2)
def PC_18 (E : EV) (h : AH) (K : AH → Prop) (a1 a2 a3 : Int32) : Prop := CV (sX10_place E) (some 0) 10 [aI a1, aI a2, aI a3] h (kI fun r h => CV (sX11_place E) (some 313) 11 [aI a1, aI a2, aI a3] h (kI fun r2 h => r = r2 ∧ K h))
theorem lc_18 (G : LC E X ls b L xs i) (hk : k + 4 ≤ 600000) (hn : n + 50 ≤ 7302250) (hin : ∀ j : Nat, j ≤ 6 → vp_in (i + Int32.ofNat j) L) (w : PC_18 E h (fun h => GoF E X ls (k + 4) (n + 50) 1371 [] h) (xs (i + 1).toNatClampNeg) (xs (i + 2).toNatClampNeg) (xs (i + 3).toNatClampNeg)) : GoF E X ls k n 914 [] h := by
  unfold PC_18 at w
  refine f_x G dL_law_914 ?_
  refine f_sc (v := 1) G rfl (hin 1 (by omega)) dL_law_915 dL_law_916 dL_law_917 dL_law_918 dL_law_919 ?_
  refine f_sc (v := 2) G rfl (hin 2 (by omega)) dL_law_920 dL_law_921 dL_law_922 dL_law_923 dL_law_924 ?_
  refine f_sc (v := 3) G rfl (hin 3 (by omega)) dL_law_925 dL_law_926 dL_law_927 dL_law_928 dL_law_929 ?_
  refine f_cv (k' := k) (n' := n) (rm' := rmX10_place) G mX10_place vX10_place k754 [aI (xs (i + 1).toNatClampNeg), aI (xs (i + 2).toNatClampNeg), aI (xs (i + 3).toNatClampNeg)] [] rfl rfl (Nat.le_of_ble_eq_true rfl) (by decide) ⟨(by omega : k + 0 ≤ 600000), (by omega : n + 0 ≤ 7302250)⟩ rfl rfl dL_law_930 w (fun r h w => ?_)
  refine f_m G dL_law_933 ?_
  refine f_sc (v := 1) G rfl (hin 1 (by omega)) dL_law_934 dL_law_935 dL_law_936 dL_law_937 dL_law_938 ?_
  refine f_sc (v := 2) G rfl (hin 2 (by omega)) dL_law_939 dL_law_940 dL_law_941 dL_law_942 dL_law_943 ?_
  refine f_sc (v := 3) G rfl (hin 3 (by omega)) dL_law_944 dL_law_945 dL_law_946 dL_law_947 dL_law_948 ?_
  refine f_cv (k' := k) (n' := n) (rm' := rmX11_place) G mX11_place vX11_place k1296 [aI (xs (i + 1).toNatClampNeg), aI (xs (i + 2).toNatClampNeg), aI (xs (i + 3).toNatClampNeg)] [aI r] rfl rfl (Nat.le_of_ble_eq_true rfl) (by decide) ⟨(by omega : k + 0 ≤ 600000), (by omega : n + 0 ≤ 7302250)⟩ rfl rfl dL_law_949 w (fun r2 h w => ?_)
  refine f_wide (k' := k + 4) (n' := n + 50) (by simp) (by simp) ?_
  exact f_eq G dL_law_952 rfl w.1 (w.2)
def PC_19 (E : EV) (h : AH) (K : AH → Prop) (a1 : Int32) : Prop := CV (sX10_placeBottomLeft E) (some 0) 10 [aI a1] h (kI fun r h => CV (sX11_placeBottomLeft E) (some 313) 11 [aI a1] h (kI fun r2 h => r = r2 ∧ K h))
theorem lc_19 (G : LC E X ls b L xs i) (hk : k + 4 ≤ 600000) (hn : n + 50 ≤ 7302250) (hin : ∀ j : Nat, j ≤ 6 → vp_in (i + Int32.ofNat j) L) (w : PC_19 E h (fun h => GoF E X ls (k + 4) (n + 50) 1371 [] h) (xs (i + 1).toNatClampNeg)) : GoF E X ls k n 957 [] h := by
  unfold PC_19 at w
  refine f_x G dL_law_957 ?_
  refine f_sc (v := 1) G rfl (hin 1 (by omega)) dL_law_958 dL_law_959 dL_law_960 dL_law_961 dL_law_962 ?_
  refine f_cv (k' := k) (n' := n) (rm' := rmX10_placeBottomLeft) G mX10_placeBottomLeft vX10_placeBottomLeft k770 [aI (xs (i + 1).toNatClampNeg)] [] rfl rfl (Nat.le_of_ble_eq_true rfl) (by decide) ⟨(by omega : k + 0 ≤ 600000), (by omega : n + 0 ≤ 7302250)⟩ rfl rfl dL_law_963 w (fun r h w => ?_)
  refine f_m G dL_law_966 ?_
  refine f_sc (v := 1) G rfl (hin 1 (by omega)) dL_law_967 dL_law_968 dL_law_969 dL_law_970 dL_law_971 ?_
  refine f_cv (k' := k) (n' := n) (rm' := rmX11_placeBottomLeft) G mX11_placeBottomLeft vX11_placeBottomLeft k1312 [aI (xs (i + 1).toNatClampNeg)] [aI r] rfl rfl (Nat.le_of_ble_eq_true rfl) (by decide) ⟨(by omega : k + 0 ≤ 600000), (by omega : n + 0 ≤ 7302250)⟩ rfl rfl dL_law_972 w (fun r2 h w => ?_)
  refine f_wide (k' := k + 4) (n' := n + 50) (by simp) (by simp) ?_
  exact f_eq G dL_law_975 rfl w.1 (w.2)
def PC_20 (E : EV) (h : AH) (K : AH → Prop) (a1 : Int32) : Prop := CV (sX10_placeTurned E) (some 0) 10 [aI a1] h (kI fun r h => CV (sX11_placeTurned E) (some 313) 11 [aI a1] h (kI fun r2 h => r = r2 ∧ K h))
theorem lc_20 (G : LC E X ls b L xs i) (hk : k + 4 ≤ 600000) (hn : n + 50 ≤ 7302250) (hin : ∀ j : Nat, j ≤ 6 → vp_in (i + Int32.ofNat j) L) (w : PC_20 E h (fun h => GoF E X ls (k + 4) (n + 50) 1371 [] h) (xs (i + 1).toNatClampNeg)) : GoF E X ls k n 980 [] h := by
  unfold PC_20 at w
  refine f_x G dL_law_980 ?_
  refine f_sc (v := 1) G rfl (hin 1 (by omega)) dL_law_981 dL_law_982 dL_law_983 dL_law_984 dL_law_985 ?_
  refine f_cv (k' := (k + 4)) (n' := (n + 50)) (rm' := rmX10_placeTurned) G mX10_placeTurned vX10_placeTurned k787 [aI (xs (i + 1).toNatClampNeg)] [] rfl rfl (Nat.le_of_ble_eq_true rfl) (by decide) ⟨(by omega : k + 4 ≤ 600000), (by omega : n + 50 ≤ 7302250)⟩ rfl rfl dL_law_986 w (fun r h w => ?_)
  refine f_m G dL_law_989 ?_
  refine f_sc (v := 1) G rfl (hin 1 (by omega)) dL_law_990 dL_law_991 dL_law_992 dL_law_993 dL_law_994 ?_
  refine f_cv (k' := (k + 4)) (n' := (n + 50)) (rm' := rmX11_placeTurned) G mX11_placeTurned vX11_placeTurned k1324 [aI (xs (i + 1).toNatClampNeg)] [aI r] rfl rfl (Nat.le_of_ble_eq_true rfl) (by decide) ⟨(by omega : (k + 4) + 0 ≤ 600000), (by omega : (n + 50) + 0 ≤ 7302250)⟩ rfl rfl dL_law_995 w (fun r2 h w => ?_)
  exact f_eq G dL_law_998 rfl w.1 (w.2)
def PC_21 (E : EV) (h : AH) (K : AH → Prop) : Prop := CV (sX10_loadLayout E) (some 0) 10 [] h (kI fun r h => CV (sX11_loadLayout E) (some 313) 11 [] h (kI fun r2 h => r = r2 ∧ K h))
theorem lc_21 (G : LC E X ls b L xs i) (hk : k + 4 ≤ 600000) (hn : n + 50 ≤ 7302250) (hin : ∀ j : Nat, j ≤ 6 → vp_in (i + Int32.ofNat j) L) (w : PC_21 E h (fun h => GoF E X ls (k + 4) (n + 50) 1371 [] h)) : GoF E X ls k n 1003 [] h := by
  unfold PC_21 at w
  refine f_x G dL_law_1003 ?_
  refine f_cv (k' := k) (n' := n) (rm' := rmX10_loadLayout) G mX10_loadLayout vX10_loadLayout k795 [] [] rfl rfl (Nat.le_of_ble_eq_true rfl) (by decide) ⟨(by omega : k + 0 ≤ 600000), (by omega : n + 0 ≤ 7302250)⟩ rfl rfl dL_law_1004 w (fun r h w => ?_)
  refine f_m G dL_law_1007 ?_
  refine f_cv (k' := k) (n' := n) (rm' := rmX11_loadLayout) G mX11_loadLayout vX11_loadLayout k1329 [] [aI r] rfl rfl (Nat.le_of_ble_eq_true rfl) (by decide) ⟨(by omega : k + 0 ≤ 600000), (by omega : n + 0 ≤ 7302250)⟩ rfl rfl dL_law_1008 w (fun r2 h w => ?_)
  refine f_wide (k' := k + 4) (n' := n + 50) (by simp) (by simp) ?_
  exact f_eq G dL_law_1011 rfl w.1 (w.2)
def PC_22 (E : EV) (h : AH) (K : AH → Prop) (a1 a2 : Int32) : Prop := CV (sX10_slideItem E) (some 0) 10 [aI a1, aI a2] h (kI fun r h => CV (sX11_slideItem E) (some 313) 11 [aI a1, aI a2] h (kI fun r2 h => r = r2 ∧ K h))
theorem lc_22 (G : LC E X ls b L xs i) (hk : k + 4 ≤ 600000) (hn : n + 50 ≤ 7302250) (hin : ∀ j : Nat, j ≤ 6 → vp_in (i + Int32.ofNat j) L) (w : PC_22 E h (fun h => GoF E X ls (k + 4) (n + 50) 1371 [] h) (xs (i + 1).toNatClampNeg) (xs (i + 2).toNatClampNeg)) : GoF E X ls k n 1016 [] h := by
  unfold PC_22 at w
  refine f_x G dL_law_1016 ?_
  refine f_sc (v := 1) G rfl (hin 1 (by omega)) dL_law_1017 dL_law_1018 dL_law_1019 dL_law_1020 dL_law_1021 ?_
  refine f_sc (v := 2) G rfl (hin 2 (by omega)) dL_law_1022 dL_law_1023 dL_law_1024 dL_law_1025 dL_law_1026 ?_
  refine f_cv (k' := k) (n' := n) (rm' := rmX10_slideItem) G mX10_slideItem vX10_slideItem k830 [aI (xs (i + 1).toNatClampNeg), aI (xs (i + 2).toNatClampNeg)] [] rfl rfl (Nat.le_of_ble_eq_true rfl) (by decide) ⟨(by omega : k + 0 ≤ 600000), (by omega : n + 0 ≤ 7302250)⟩ rfl rfl dL_law_1027 w (fun r h w => ?_)
  refine f_m G dL_law_1030 ?_
  refine f_sc (v := 1) G rfl (hin 1 (by omega)) dL_law_1031 dL_law_1032 dL_law_1033 dL_law_1034 dL_law_1035 ?_
  refine f_sc (v := 2) G rfl (hin 2 (by omega)) dL_law_1036 dL_law_1037 dL_law_1038 dL_law_1039 dL_law_1040 ?_
  refine f_cv (k' := k) (n' := n) (rm' := rmX11_slideItem) G mX11_slideItem vX11_slideItem k1345 [aI (xs (i + 1).toNatClampNeg), aI (xs (i + 2).toNatClampNeg)] [aI r] rfl rfl (Nat.le_of_ble_eq_true rfl) (by decide) ⟨(by omega : k + 0 ≤ 600000), (by omega : n + 0 ≤ 7302250)⟩ rfl rfl dL_law_1041 w (fun r2 h w => ?_)
  refine f_wide (k' := k + 4) (n' := n + 50) (by simp) (by simp) ?_
  exact f_eq G dL_law_1044 rfl w.1 (w.2)
def PC_23 (E : EV) (h : AH) (K : AH → Prop) : Prop := CV (sX10_compact E) (some 0) 10 [] h (kI fun r h => CV (sX11_compact E) (some 313) 11 [] h (kI fun r2 h => r = r2 ∧ K h))
theorem lc_23 (G : LC E X ls b L xs i) (hk : k + 4 ≤ 600000) (hn : n + 50 ≤ 7302250) (hin : ∀ j : Nat, j ≤ 6 → vp_in (i + Int32.ofNat j) L) (w : PC_23 E h (fun h => GoF E X ls (k + 4) (n + 50) 1371 [] h)) : GoF E X ls k n 1049 [] h := by
  unfold PC_23 at w
  refine f_x G dL_law_1049 ?_
  refine f_cv (k' := k) (n' := n) (rm' := rmX10_compact) G mX10_compact vX10_compact k844 [] [] rfl rfl (Nat.le_of_ble_eq_true rfl) (by decide) ⟨(by omega : k + 0 ≤ 600000), (by omega : n + 0 ≤ 7302250)⟩ rfl rfl dL_law_1050 w (fun r h w => ?_)
  refine f_m G dL_law_1053 ?_
  refine f_cv (k' := k) (n' := n) (rm' := rmX11_compact) G mX11_compact vX11_compact k1357 [] [aI r] rfl rfl (Nat.le_of_ble_eq_true rfl) (by decide) ⟨(by omega : k + 0 ≤ 600000), (by omega : n + 0 ≤ 7302250)⟩ rfl rfl dL_law_1054 w (fun r2 h w => ?_)
  refine f_wide (k' := k + 4) (n' := n + 50) (by simp) (by simp) ?_
  exact f_eq G dL_law_1057 rfl w.1 (w.2)
def PC_24 (E : EV) (h : AH) (K : AH → Prop) (a1 : Int32) : Prop := CV (sX10_removeItem E) (some 0) 10 [aI a1] h (kI fun r h => CV (sX11_removeItem E) (some 313) 11 [aI a1] h (kI fun r2 h => r = r2 ∧ K h))
theorem lc_24 (G : LC E X ls b L xs i) (hk : k + 4 ≤ 600000) (hn : n + 50 ≤ 7302250) (hin : ∀ j : Nat, j ≤ 6 → vp_in (i + Int32.ofNat j) L) (w : PC_24 E h (fun h => GoF E X ls (k + 4) (n + 50) 1371 [] h) (xs (i + 1).toNatClampNeg)) : GoF E X ls k n 1062 [] h := by
  unfold PC_24 at w
  refine f_x G dL_law_1062 ?_
  refine f_sc (v := 1) G rfl (hin 1 (by omega)) dL_law_1063 dL_law_1064 dL_law_1065 dL_law_1066 dL_law_1067 ?_
  refine f_cv (k' := k) (n' := n) (rm' := rmX10_removeItem) G mX10_removeItem vX10_removeItem k848 [aI (xs (i + 1).toNatClampNeg)] [] rfl rfl (Nat.le_of_ble_eq_true rfl) (by decide) ⟨(by omega : k + 0 ≤ 600000), (by omega : n + 0 ≤ 7302250)⟩ rfl rfl dL_law_1068 w (fun r h w => ?_)
  refine f_m G dL_law_1071 ?_
  refine f_sc (v := 1) G rfl (hin 1 (by omega)) dL_law_1072 dL_law_1073 dL_law_1074 dL_law_1075 dL_law_1076 ?_
  refine f_cv (k' := k) (n' := n) (rm' := rmX11_removeItem) G mX11_removeItem vX11_removeItem k1365 [aI (xs (i + 1).toNatClampNeg)] [aI r] rfl rfl (Nat.le_of_ble_eq_true rfl) (by decide) ⟨(by omega : k + 0 ≤ 600000), (by omega : n + 0 ≤ 7302250)⟩ rfl rfl dL_law_1077 w (fun r2 h w => ?_)
  refine f_wide (k' := k + 4) (n' := n + 50) (by simp) (by simp) ?_
  exact f_eq G dL_law_1080 rfl w.1 (w.2)
def PC_25 (E : EV) (h : AH) (K : AH → Prop) : Prop := CV (sX10_itemCount E) (some 0) 10 [] h (kI fun r h => CV (sX11_itemCount E) (some 313) 11 [] h (kI fun r2 h => r = r2 ∧ K h))
theorem lc_25 (G : LC E X ls b L xs i) (hk : k + 4 ≤ 600000) (hn : n + 50 ≤ 7302250) (hin : ∀ j : Nat, j ≤ 6 → vp_in (i + Int32.ofNat j) L) (w : PC_25 E h (fun h => GoF E X ls (k + 4) (n + 50) 1371 [] h)) : GoF E X ls k n 1085 [] h := by
  unfold PC_25 at w
  refine f_x G dL_law_1085 ?_
  refine f_cv (k' := k) (n' := n) (rm' := rmX10_itemCount) G mX10_itemCount vX10_itemCount k856 [] [] rfl rfl (Nat.le_of_ble_eq_true rfl) (by decide) ⟨(by omega : k + 0 ≤ 600000), (by omega : n + 0 ≤ 7302250)⟩ rfl rfl dL_law_1086 w (fun r h w => ?_)
  refine f_m G dL_law_1089 ?_
  refine f_cv (k' := k) (n' := n) (rm' := rmX11_itemCount) G mX11_itemCount vX11_itemCount k1369 [] [aI r] rfl rfl (Nat.le_of_ble_eq_true rfl) (by decide) ⟨(by omega : k + 0 ≤ 600000), (by omega : n + 0 ≤ 7302250)⟩ rfl rfl dL_law_1090 w (fun r2 h w => ?_)
  refine f_wide (k' := k + 4) (n' := n + 50) (by simp) (by simp) ?_
  exact f_eq G dL_law_1093 rfl w.1 (w.2)
def PC_26 (E : EV) (h : AH) (K : AH → Prop) (a1 a2 : Int32) : Prop := CV (sX10_itemPlace E) (some 0) 10 [aI a1, aI a2] h (kI fun r h => CV (sX11_itemPlace E) (some 313) 11 [aI a1, aI a2] h (kI fun r2 h => r = r2 ∧ K h))
theorem lc_26 (G : LC E X ls b L xs i) (hk : k + 4 ≤ 600000) (hn : n + 50 ≤ 7302250) (hin : ∀ j : Nat, j ≤ 6 → vp_in (i + Int32.ofNat j) L) (w : PC_26 E h (fun h => GoF E X ls (k + 4) (n + 50) 1371 [] h) (xs (i + 1).toNatClampNeg) (xs (i + 2).toNatClampNeg)) : GoF E X ls k n 1098 [] h := by
  unfold PC_26 at w
  refine f_x G dL_law_1098 ?_
  refine f_sc (v := 1) G rfl (hin 1 (by omega)) dL_law_1099 dL_law_1100 dL_law_1101 dL_law_1102 dL_law_1103 ?_
  refine f_sc (v := 2) G rfl (hin 2 (by omega)) dL_law_1104 dL_law_1105 dL_law_1106 dL_law_1107 dL_law_1108 ?_
  refine f_cv (k' := k) (n' := n) (rm' := rmX10_itemPlace) G mX10_itemPlace vX10_itemPlace k860 [aI (xs (i + 1).toNatClampNeg), aI (xs (i + 2).toNatClampNeg)] [] rfl rfl (Nat.le_of_ble_eq_true rfl) (by decide) ⟨(by omega : k + 0 ≤ 600000), (by omega : n + 0 ≤ 7302250)⟩ rfl rfl dL_law_1109 w (fun r h w => ?_)
  refine f_m G dL_law_1112 ?_
  refine f_sc (v := 1) G rfl (hin 1 (by omega)) dL_law_1113 dL_law_1114 dL_law_1115 dL_law_1116 dL_law_1117 ?_
  refine f_sc (v := 2) G rfl (hin 2 (by omega)) dL_law_1118 dL_law_1119 dL_law_1120 dL_law_1121 dL_law_1122 ?_
  refine f_cv (k' := k) (n' := n) (rm' := rmX11_itemPlace) G mX11_itemPlace vX11_itemPlace k1373 [aI (xs (i + 1).toNatClampNeg), aI (xs (i + 2).toNatClampNeg)] [aI r] rfl rfl (Nat.le_of_ble_eq_true rfl) (by decide) ⟨(by omega : k + 0 ≤ 600000), (by omega : n + 0 ≤ 7302250)⟩ rfl rfl dL_law_1123 w (fun r2 h w => ?_)
  refine f_wide (k' := k + 4) (n' := n + 50) (by simp) (by simp) ?_
  exact f_eq G dL_law_1126 rfl w.1 (w.2)
def PC_27 (E : EV) (h : AH) (K : AH → Prop) (a1 : Int32) : Prop := CV (sX10_freePlaces E) (some 0) 10 [aI a1] h (kI fun r h => CV (sX11_freePlaces E) (some 313) 11 [aI a1] h (kI fun r2 h => r = r2 ∧ K h))
theorem lc_27 (G : LC E X ls b L xs i) (hk : k + 4 ≤ 600000) (hn : n + 50 ≤ 7302250) (hin : ∀ j : Nat, j ≤ 6 → vp_in (i + Int32.ofNat j) L) (w : PC_27 E h (fun h => GoF E X ls (k + 4) (n + 50) 1371 [] h) (xs (i + 1).toNatClampNeg)) : GoF E X ls k n 1131 [] h := by
  unfold PC_27 at w
  refine f_x G dL_law_1131 ?_
  refine f_sc (v := 1) G rfl (hin 1 (by omega)) dL_law_1132 dL_law_1133 dL_law_1134 dL_law_1135 dL_law_1136 ?_
  refine f_cv (k' := k) (n' := n) (rm' := rmX10_freePlaces) G mX10_freePlaces vX10_freePlaces k864 [aI (xs (i + 1).toNatClampNeg)] [] rfl rfl (Nat.le_of_ble_eq_true rfl) (by decide) ⟨(by omega : k + 0 ≤ 600000), (by omega : n + 0 ≤ 7302250)⟩ rfl rfl dL_law_1137 w (fun r h w => ?_)
  refine f_m G dL_law_1140 ?_
  refine f_sc (v := 1) G rfl (hin 1 (by omega)) dL_law_1141 dL_law_1142 dL_law_1143 dL_law_1144 dL_law_1145 ?_
  refine f_cv (k' := k) (n' := n) (rm' := rmX11_freePlaces) G mX11_freePlaces vX11_freePlaces k1377 [aI (xs (i + 1).toNatClampNeg)] [aI r] rfl rfl (Nat.le_of_ble_eq_true rfl) (by decide) ⟨(by omega : k + 0 ≤ 600000), (by omega : n + 0 ≤ 7302250)⟩ rfl rfl dL_law_1146 w (fun r2 h w => ?_)
  refine f_wide (k' := k + 4) (n' := n + 50) (by simp) (by simp) ?_
  exact f_eq G dL_law_1149 rfl w.1 (w.2)
def PC_28 (E : EV) (h : AH) (K : AH → Prop) (a1 a2 a3 : Int32) : Prop := CV (sX10_itemGap E) (some 0) 10 [aI a1, aI a2, aI a3] h (kI fun r h => CV (sX11_itemGap E) (some 313) 11 [aI a1, aI a2, aI a3] h (kI fun r2 h => r = r2 ∧ K h))
theorem lc_28 (G : LC E X ls b L xs i) (hk : k + 4 ≤ 600000) (hn : n + 50 ≤ 7302250) (hin : ∀ j : Nat, j ≤ 6 → vp_in (i + Int32.ofNat j) L) (w : PC_28 E h (fun h => GoF E X ls (k + 4) (n + 50) 1371 [] h) (xs (i + 1).toNatClampNeg) (xs (i + 2).toNatClampNeg) (xs (i + 3).toNatClampNeg)) : GoF E X ls k n 1154 [] h := by
  unfold PC_28 at w
  refine f_x G dL_law_1154 ?_
  refine f_sc (v := 1) G rfl (hin 1 (by omega)) dL_law_1155 dL_law_1156 dL_law_1157 dL_law_1158 dL_law_1159 ?_
  refine f_sc (v := 2) G rfl (hin 2 (by omega)) dL_law_1160 dL_law_1161 dL_law_1162 dL_law_1163 dL_law_1164 ?_
  refine f_sc (v := 3) G rfl (hin 3 (by omega)) dL_law_1165 dL_law_1166 dL_law_1167 dL_law_1168 dL_law_1169 ?_
  refine f_cv (k' := k) (n' := n) (rm' := rmX10_itemGap) G mX10_itemGap vX10_itemGap k872 [aI (xs (i + 1).toNatClampNeg), aI (xs (i + 2).toNatClampNeg), aI (xs (i + 3).toNatClampNeg)] [] rfl rfl (Nat.le_of_ble_eq_true rfl) (by decide) ⟨(by omega : k + 0 ≤ 600000), (by omega : n + 0 ≤ 7302250)⟩ rfl rfl dL_law_1170 w (fun r h w => ?_)
  refine f_m G dL_law_1173 ?_
  refine f_sc (v := 1) G rfl (hin 1 (by omega)) dL_law_1174 dL_law_1175 dL_law_1176 dL_law_1177 dL_law_1178 ?_
  refine f_sc (v := 2) G rfl (hin 2 (by omega)) dL_law_1179 dL_law_1180 dL_law_1181 dL_law_1182 dL_law_1183 ?_
  refine f_sc (v := 3) G rfl (hin 3 (by omega)) dL_law_1184 dL_law_1185 dL_law_1186 dL_law_1187 dL_law_1188 ?_
  refine f_cv (k' := k) (n' := n) (rm' := rmX11_itemGap) G mX11_itemGap vX11_itemGap k1381 [aI (xs (i + 1).toNatClampNeg), aI (xs (i + 2).toNatClampNeg), aI (xs (i + 3).toNatClampNeg)] [aI r] rfl rfl (Nat.le_of_ble_eq_true rfl) (by decide) ⟨(by omega : k + 0 ≤ 600000), (by omega : n + 0 ≤ 7302250)⟩ rfl rfl dL_law_1189 w (fun r2 h w => ?_)
  refine f_wide (k' := k + 4) (n' := n + 50) (by simp) (by simp) ?_
  exact f_eq G dL_law_1192 rfl w.1 (w.2)
def PC_29 (E : EV) (h : AH) (K : AH → Prop) : Prop := CV (sX10_closestPair E) (some 0) 10 [] h (kI fun r h => CV (sX11_closestPair E) (some 313) 11 [] h (kI fun r2 h => r = r2 ∧ K h))
theorem lc_29 (G : LC E X ls b L xs i) (hk : k + 4 ≤ 600000) (hn : n + 50 ≤ 7302250) (hin : ∀ j : Nat, j ≤ 6 → vp_in (i + Int32.ofNat j) L) (w : PC_29 E h (fun h => GoF E X ls (k + 4) (n + 50) 1371 [] h)) : GoF E X ls k n 1197 [] h := by
  unfold PC_29 at w
  refine f_x G dL_law_1197 ?_
  refine f_cv (k' := k) (n' := n) (rm' := rmX10_closestPair) G mX10_closestPair vX10_closestPair k880 [] [] rfl rfl (Nat.le_of_ble_eq_true rfl) (by decide) ⟨(by omega : k + 0 ≤ 600000), (by omega : n + 0 ≤ 7302250)⟩ rfl rfl dL_law_1198 w (fun r h w => ?_)
  refine f_m G dL_law_1201 ?_
  refine f_cv (k' := k) (n' := n) (rm' := rmX11_closestPair) G mX11_closestPair vX11_closestPair k1389 [] [aI r] rfl rfl (Nat.le_of_ble_eq_true rfl) (by decide) ⟨(by omega : k + 0 ≤ 600000), (by omega : n + 0 ≤ 7302250)⟩ rfl rfl dL_law_1202 w (fun r2 h w => ?_)
  refine f_wide (k' := k + 4) (n' := n + 50) (by simp) (by simp) ?_
  exact f_eq G dL_law_1205 rfl w.1 (w.2)
def PC_30 (E : EV) (h : AH) (K : AH → Prop) (a1 a2 : Int32) : Prop := CV (sX10_itemAt E) (some 0) 10 [aI a1, aI a2] h (kI fun r h => CV (sX11_itemAt E) (some 313) 11 [aI a1, aI a2] h (kI fun r2 h => r = r2 ∧ K h))
theorem lc_30 (G : LC E X ls b L xs i) (hk : k + 4 ≤ 600000) (hn : n + 50 ≤ 7302250) (hin : ∀ j : Nat, j ≤ 6 → vp_in (i + Int32.ofNat j) L) (w : PC_30 E h (fun h => GoF E X ls (k + 4) (n + 50) 1371 [] h) (xs (i + 1).toNatClampNeg) (xs (i + 2).toNatClampNeg)) : GoF E X ls k n 1210 [] h := by
  unfold PC_30 at w
  refine f_x G dL_law_1210 ?_
  refine f_sc (v := 1) G rfl (hin 1 (by omega)) dL_law_1211 dL_law_1212 dL_law_1213 dL_law_1214 dL_law_1215 ?_
  refine f_sc (v := 2) G rfl (hin 2 (by omega)) dL_law_1216 dL_law_1217 dL_law_1218 dL_law_1219 dL_law_1220 ?_
  refine f_cv (k' := k) (n' := n) (rm' := rmX10_itemAt) G mX10_itemAt vX10_itemAt k886 [aI (xs (i + 1).toNatClampNeg), aI (xs (i + 2).toNatClampNeg)] [] rfl rfl (Nat.le_of_ble_eq_true rfl) (by decide) ⟨(by omega : k + 0 ≤ 600000), (by omega : n + 0 ≤ 7302250)⟩ rfl rfl dL_law_1221 w (fun r h w => ?_)
  refine f_m G dL_law_1224 ?_
  refine f_sc (v := 1) G rfl (hin 1 (by omega)) dL_law_1225 dL_law_1226 dL_law_1227 dL_law_1228 dL_law_1229 ?_
  refine f_sc (v := 2) G rfl (hin 2 (by omega)) dL_law_1230 dL_law_1231 dL_law_1232 dL_law_1233 dL_law_1234 ?_
  refine f_cv (k' := k) (n' := n) (rm' := rmX11_itemAt) G mX11_itemAt vX11_itemAt k1393 [aI (xs (i + 1).toNatClampNeg), aI (xs (i + 2).toNatClampNeg)] [aI r] rfl rfl (Nat.le_of_ble_eq_true rfl) (by decide) ⟨(by omega : k + 0 ≤ 600000), (by omega : n + 0 ≤ 7302250)⟩ rfl rfl dL_law_1235 w (fun r2 h w => ?_)
  refine f_wide (k' := k + 4) (n' := n + 50) (by simp) (by simp) ?_
  exact f_eq G dL_law_1238 rfl w.1 (w.2)
def PC_31 (E : EV) (h : AH) (K : AH → Prop) (a1 a2 : Int32) : Prop := CV (sX10_escapes E) (some 0) 10 [aI a1, aI a2] h (kI fun r h => CV (sX11_escapes E) (some 313) 11 [aI a1, aI a2] h (kI fun r2 h => r = r2 ∧ K h))
theorem lc_31 (G : LC E X ls b L xs i) (hk : k + 4 ≤ 600000) (hn : n + 50 ≤ 7302250) (hin : ∀ j : Nat, j ≤ 6 → vp_in (i + Int32.ofNat j) L) (w : PC_31 E h (fun h => GoF E X ls (k + 4) (n + 50) 1371 [] h) (xs (i + 1).toNatClampNeg) (xs (i + 2).toNatClampNeg)) : GoF E X ls k n 1243 [] h := by
  unfold PC_31 at w
  refine f_x G dL_law_1243 ?_
  refine f_sc (v := 1) G rfl (hin 1 (by omega)) dL_law_1244 dL_law_1245 dL_law_1246 dL_law_1247 dL_law_1248 ?_
  refine f_sc (v := 2) G rfl (hin 2 (by omega)) dL_law_1249 dL_law_1250 dL_law_1251 dL_law_1252 dL_law_1253 ?_
  refine f_cv (k' := k) (n' := n) (rm' := rmX10_escapes) G mX10_escapes vX10_escapes k895 [aI (xs (i + 1).toNatClampNeg), aI (xs (i + 2).toNatClampNeg)] [] rfl rfl (Nat.le_of_ble_eq_true rfl) (by decide) ⟨(by omega : k + 0 ≤ 600000), (by omega : n + 0 ≤ 7302250)⟩ rfl rfl dL_law_1254 w (fun r h w => ?_)
  refine f_m G dL_law_1257 ?_
  refine f_sc (v := 1) G rfl (hin 1 (by omega)) dL_law_1258 dL_law_1259 dL_law_1260 dL_law_1261 dL_law_1262 ?_
  refine f_sc (v := 2) G rfl (hin 2 (by omega)) dL_law_1263 dL_law_1264 dL_law_1265 dL_law_1266 dL_law_1267 ?_
  refine f_cv (k' := k) (n' := n) (rm' := rmX11_escapes) G mX11_escapes vX11_escapes k1401 [aI (xs (i + 1).toNatClampNeg), aI (xs (i + 2).toNatClampNeg)] [aI r] rfl rfl (Nat.le_of_ble_eq_true rfl) (by decide) ⟨(by omega : k + 0 ≤ 600000), (by omega : n + 0 ≤ 7302250)⟩ rfl rfl dL_law_1268 w (fun r2 h w => ?_)
  refine f_wide (k' := k + 4) (n' := n + 50) (by simp) (by simp) ?_
  exact f_eq G dL_law_1271 rfl w.1 (w.2)
def PC_32 (E : EV) (h : AH) (K : AH → Prop) (a1 a2 : Int32) : Prop := CV (sX10_removalOrder E) (some 0) 10 [aI a1, aI a2] h (kI fun r h => CV (sX11_removalOrder E) (some 313) 11 [aI a1, aI a2] h (kI fun r2 h => r = r2 ∧ K h))
theorem lc_32 (G : LC E X ls b L xs i) (hk : k + 4 ≤ 600000) (hn : n + 50 ≤ 7302250) (hin : ∀ j : Nat, j ≤ 6 → vp_in (i + Int32.ofNat j) L) (w : PC_32 E h (fun h => GoF E X ls (k + 4) (n + 50) 1371 [] h) (xs (i + 1).toNatClampNeg) (xs (i + 2).toNatClampNeg)) : GoF E X ls k n 1276 [] h := by
  unfold PC_32 at w
  refine f_x G dL_law_1276 ?_
  refine f_sc (v := 1) G rfl (hin 1 (by omega)) dL_law_1277 dL_law_1278 dL_law_1279 dL_law_1280 dL_law_1281 ?_
  refine f_sc (v := 2) G rfl (hin 2 (by omega)) dL_law_1282 dL_law_1283 dL_law_1284 dL_law_1285 dL_law_1286 ?_
  refine f_cv (k' := k) (n' := n) (rm' := rmX10_removalOrder) G mX10_removalOrder vX10_removalOrder k903 [aI (xs (i + 1).toNatClampNeg), aI (xs (i + 2).toNatClampNeg)] [] rfl rfl (Nat.le_of_ble_eq_true rfl) (by decide) ⟨(by omega : k + 0 ≤ 600000), (by omega : n + 0 ≤ 7302250)⟩ rfl rfl dL_law_1287 w (fun r h w => ?_)
  refine f_m G dL_law_1290 ?_
  refine f_sc (v := 1) G rfl (hin 1 (by omega)) dL_law_1291 dL_law_1292 dL_law_1293 dL_law_1294 dL_law_1295 ?_
  refine f_sc (v := 2) G rfl (hin 2 (by omega)) dL_law_1296 dL_law_1297 dL_law_1298 dL_law_1299 dL_law_1300 ?_
  refine f_cv (k' := k) (n' := n) (rm' := rmX11_removalOrder) G mX11_removalOrder vX11_removalOrder k1409 [aI (xs (i + 1).toNatClampNeg), aI (xs (i + 2).toNatClampNeg)] [aI r] rfl rfl (Nat.le_of_ble_eq_true rfl) (by decide) ⟨(by omega : k + 0 ≤ 600000), (by omega : n + 0 ≤ 7302250)⟩ rfl rfl dL_law_1301 w (fun r2 h w => ?_)
  refine f_wide (k' := k + 4) (n' := n + 50) (by simp) (by simp) ?_
  exact f_eq G dL_law_1304 rfl w.1 (w.2)
def PC_33 (E : EV) (h : AH) (K : AH → Prop) : Prop := CV (sX10_packedDoubleArea E) (some 0) 10 [] h (kI fun r h => CV (sX11_packedDoubleArea E) (some 313) 11 [] h (kI fun r2 h => r = r2 ∧ K h))
theorem lc_33 (G : LC E X ls b L xs i) (hk : k + 4 ≤ 600000) (hn : n + 50 ≤ 7302250) (hin : ∀ j : Nat, j ≤ 6 → vp_in (i + Int32.ofNat j) L) (w : PC_33 E h (fun h => GoF E X ls (k + 4) (n + 50) 1371 [] h)) : GoF E X ls k n 1309 [] h := by
  unfold PC_33 at w
  refine f_x G dL_law_1309 ?_
  refine f_cv (k' := k) (n' := n) (rm' := rmX10_packedDoubleArea) G mX10_packedDoubleArea vX10_packedDoubleArea k911 [] [] rfl rfl (Nat.le_of_ble_eq_true rfl) (by decide) ⟨(by omega : k + 0 ≤ 600000), (by omega : n + 0 ≤ 7302250)⟩ rfl rfl dL_law_1310 w (fun r h w => ?_)
  refine f_m G dL_law_1313 ?_
  refine f_cv (k' := k) (n' := n) (rm' := rmX11_packedDoubleArea) G mX11_packedDoubleArea vX11_packedDoubleArea k1413 [] [aI r] rfl rfl (Nat.le_of_ble_eq_true rfl) (by decide) ⟨(by omega : k + 0 ≤ 600000), (by omega : n + 0 ≤ 7302250)⟩ rfl rfl dL_law_1314 w (fun r2 h w => ?_)
  refine f_wide (k' := k + 4) (n' := n + 50) (by simp) (by simp) ?_
  exact f_eq G dL_law_1317 rfl w.1 (w.2)
def PC_34 (E : EV) (h : AH) (K : AH → Prop) (a1 : Int32) : Prop := CV (sX10_boundingBox E) (some 0) 10 [aI a1] h (kI fun r h => CV (sX11_boundingBox E) (some 313) 11 [aI a1] h (kI fun r2 h => r = r2 ∧ K h))
theorem lc_34 (G : LC E X ls b L xs i) (hk : k + 4 ≤ 600000) (hn : n + 50 ≤ 7302250) (hin : ∀ j : Nat, j ≤ 6 → vp_in (i + Int32.ofNat j) L) (w : PC_34 E h (fun h => GoF E X ls (k + 4) (n + 50) 1371 [] h) (xs (i + 1).toNatClampNeg)) : GoF E X ls k n 1322 [] h := by
  unfold PC_34 at w
  refine f_x G dL_law_1322 ?_
  refine f_sc (v := 1) G rfl (hin 1 (by omega)) dL_law_1323 dL_law_1324 dL_law_1325 dL_law_1326 dL_law_1327 ?_
  refine f_cv (k' := k) (n' := n) (rm' := rmX10_boundingBox) G mX10_boundingBox vX10_boundingBox k915 [aI (xs (i + 1).toNatClampNeg)] [] rfl rfl (Nat.le_of_ble_eq_true rfl) (by decide) ⟨(by omega : k + 0 ≤ 600000), (by omega : n + 0 ≤ 7302250)⟩ rfl rfl dL_law_1328 w (fun r h w => ?_)
  refine f_m G dL_law_1331 ?_
  refine f_sc (v := 1) G rfl (hin 1 (by omega)) dL_law_1332 dL_law_1333 dL_law_1334 dL_law_1335 dL_law_1336 ?_
  refine f_cv (k' := k) (n' := n) (rm' := rmX11_boundingBox) G mX11_boundingBox vX11_boundingBox k1417 [aI (xs (i + 1).toNatClampNeg)] [aI r] rfl rfl (Nat.le_of_ble_eq_true rfl) (by decide) ⟨(by omega : k + 0 ≤ 600000), (by omega : n + 0 ≤ 7302250)⟩ rfl rfl dL_law_1337 w (fun r2 h w => ?_)
  refine f_wide (k' := k + 4) (n' := n + 50) (by simp) (by simp) ?_
  exact f_eq G dL_law_1340 rfl w.1 (w.2)
def PC_35 (E : EV) (h : AH) (K : AH → Prop) : Prop := CV (sX10_touchingPairs E) (some 0) 10 [] h (kI fun r h => CV (sX11_touchingPairs E) (some 313) 11 [] h (kI fun r2 h => r = r2 ∧ K h))
theorem lc_35 (G : LC E X ls b L xs i) (hk : k + 4 ≤ 600000) (hn : n + 50 ≤ 7302250) (hin : ∀ j : Nat, j ≤ 6 → vp_in (i + Int32.ofNat j) L) (w : PC_35 E h (fun h => GoF E X ls (k + 4) (n + 50) 1371 [] h)) : GoF E X ls k n 1345 [] h := by
  unfold PC_35 at w
  refine f_x G dL_law_1345 ?_
  refine f_cv (k' := k) (n' := n) (rm' := rmX10_touchingPairs) G mX10_touchingPairs vX10_touchingPairs k925 [] [] rfl rfl (Nat.le_of_ble_eq_true rfl) (by decide) ⟨(by omega : k + 0 ≤ 600000), (by omega : n + 0 ≤ 7302250)⟩ rfl rfl dL_law_1346 w (fun r h w => ?_)
  refine f_m G dL_law_1349 ?_
  refine f_cv (k' := k) (n' := n) (rm' := rmX11_touchingPairs) G mX11_touchingPairs vX11_touchingPairs k1421 [] [aI r] rfl rfl (Nat.le_of_ble_eq_true rfl) (by decide) ⟨(by omega : k + 0 ≤ 600000), (by omega : n + 0 ≤ 7302250)⟩ rfl rfl dL_law_1350 w (fun r2 h w => ?_)
  refine f_wide (k' := k + 4) (n' := n + 50) (by simp) (by simp) ?_
  exact f_eq G dL_law_1353 rfl w.1 (w.2)
def PC_36 (E : EV) (h : AH) (K : AH → Prop) : Prop := CV (sX10_undo E) (some 0) 10 [] h (kI fun r h => CV (sX11_undo E) (some 313) 11 [] h (kI fun r2 h => r = r2 ∧ K h))
theorem lc_36 (G : LC E X ls b L xs i) (hk : k + 4 ≤ 600000) (hn : n + 50 ≤ 7302250) (hin : ∀ j : Nat, j ≤ 6 → vp_in (i + Int32.ofNat j) L) (w : PC_36 E h (fun h => GoF E X ls (k + 4) (n + 50) 1371 [] h)) : GoF E X ls k n 1358 [] h := by
  unfold PC_36 at w
  refine f_x G dL_law_1358 ?_
  refine f_cv (k' := k) (n' := n) (rm' := rmX10_undo) G mX10_undo vX10_undo k929 [] [] rfl rfl (Nat.le_of_ble_eq_true rfl) (by decide) ⟨(by omega : k + 0 ≤ 600000), (by omega : n + 0 ≤ 7302250)⟩ rfl rfl dL_law_1359 w (fun r h w => ?_)
  refine f_m G dL_law_1362 ?_
  refine f_cv (k' := k) (n' := n) (rm' := rmX11_undo) G mX11_undo vX11_undo k1023 [] [aI r] rfl rfl (Nat.le_of_ble_eq_true rfl) (by decide) ⟨(by omega : k + 0 ≤ 600000), (by omega : n + 0 ≤ 7302250)⟩ rfl rfl dL_law_1363 w (fun r2 h w => ?_)
  refine f_wide (k' := k + 4) (n' := n + 50) (by simp) (by simp) ?_
  exact f_eq G dL_law_1366 rfl w.1 (w.2)
end LAW
