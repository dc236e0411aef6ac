theorem dL_law_0 : decode code 0 = .ok (.new 7, 3) := by decide +kernel
theorem dL_law_3 : decode code 3 = .ok (.dup, 1) := by decide +kernel
theorem dL_law_4 : decode code 4 = .ok (.invokespecial 9, 3) := by decide +kernel
theorem dL_law_7 : decode code 7 = .ok (.astore_n 1, 1) := by decide +kernel
theorem dL_law_8 : decode code 8 = .ok (.new 10, 3) := by decide +kernel
theorem dL_law_11 : decode code 11 = .ok (.dup, 1) := by decide +kernel
theorem dL_law_12 : decode code 12 = .ok (.invokespecial 12, 3) := by decide +kernel
theorem dL_law_15 : decode code 15 = .ok (.astore_n 2, 1) := by decide +kernel
theorem dL_law_16 : decode code 16 = .ok (.iconst 0, 1) := by decide +kernel
theorem dL_law_17 : decode code 17 = .ok (.istore_n 3, 1) := by decide +kernel
theorem dL_law_18 : decode code 18 = .ok (.iload_n 3, 1) := by decide +kernel
theorem dL_law_19 : decode code 19 = .ok (.aload_n 0, 1) := by decide +kernel
theorem dL_law_20 : decode code 20 = .ok (.arraylength, 1) := by decide +kernel
theorem dL_law_21 : decode code 21 = .ok (.iconst 5, 1) := by decide +kernel
theorem dL_law_22 : decode code 22 = .ok (.isub, 1) := by decide +kernel
theorem dL_law_23 : decode code 23 = .ok (.if_icmp .gt 1029, 3) := by decide +kernel
theorem dL_law_26 : decode code 26 = .ok (.aload_n 0, 1) := by decide +kernel
theorem dL_law_27 : decode code 27 = .ok (.iload_n 3, 1) := by decide +kernel
theorem dL_law_28 : decode code 28 = .ok (.iaload, 1) := by decide +kernel
theorem dL_law_29 : decode code 29 = .ok (.bipush 63, 2) := by decide +kernel
theorem dL_law_31 : decode code 31 = .ok (.iand, 1) := by decide +kernel
theorem dL_law_32 : decode code 32 = .ok (.tableswitch 1014 0 32 #[148, 171, 184, 217, 250, 263, 286, 309, 332, 345, 359, 382, 416, 460, 493, 506, 519, 552, 585, 618, 652, 675, 698, 742, 786, 810, 843, 876, 929, 952, 965, 978, 991], 148) := by decide +kernel
theorem dL_law_180 : decode code 180 = .ok (.aload_n 1, 1) := by decide +kernel
theorem dL_law_181 : decode code 181 = .ok (.aload_n 0, 1) := by decide +kernel
theorem dL_law_182 : decode code 182 = .ok (.iload_n 3, 1) := by decide +kernel
theorem dL_law_183 : decode code 183 = .ok (.iconst 1, 1) := by decide +kernel
theorem dL_law_184 : decode code 184 = .ok (.iadd, 1) := by decide +kernel
theorem dL_law_185 : decode code 185 = .ok (.iaload, 1) := by decide +kernel
theorem dL_law_186 : decode code 186 = .ok (.invokevirtual 13, 3) := by decide +kernel
theorem dL_law_189 : decode code 189 = .ok (.aload_n 2, 1) := by decide +kernel
theorem dL_law_190 : decode code 190 = .ok (.aload_n 0, 1) := by decide +kernel
theorem dL_law_191 : decode code 191 = .ok (.iload_n 3, 1) := by decide +kernel
theorem dL_law_192 : decode code 192 = .ok (.iconst 1, 1) := by decide +kernel
theorem dL_law_193 : decode code 193 = .ok (.iadd, 1) := by decide +kernel
theorem dL_law_194 : decode code 194 = .ok (.iaload, 1) := by decide +kernel
theorem dL_law_195 : decode code 195 = .ok (.invokevirtual 17, 3) := by decide +kernel
theorem dL_law_198 : decode code 198 = .ok (.if_icmp .eq 848, 3) := by decide +kernel
theorem dL_law_201 : decode code 201 = .ok (.iconst 0, 1) := by decide +kernel
theorem dL_law_202 : decode code 202 = .ok (.ireturn, 1) := by decide +kernel
theorem dL_law_203 : decode code 203 = .ok (.aload_n 1, 1) := by decide +kernel
theorem dL_law_204 : decode code 204 = .ok (.invokevirtual 18, 3) := by decide +kernel
theorem dL_law_207 : decode code 207 = .ok (.aload_n 2, 1) := by decide +kernel
theorem dL_law_208 : decode code 208 = .ok (.invokevirtual 22, 3) := by decide +kernel
theorem dL_law_211 : decode code 211 = .ok (.if_icmp .eq 835, 3) := by decide +kernel
theorem dL_law_214 : decode code 214 = .ok (.iconst 0, 1) := by decide +kernel
theorem dL_law_215 : decode code 215 = .ok (.ireturn, 1) := by decide +kernel
theorem dL_law_216 : decode code 216 = .ok (.aload_n 1, 1) := by decide +kernel
theorem dL_law_217 : decode code 217 = .ok (.aload_n 0, 1) := by decide +kernel
theorem dL_law_218 : decode code 218 = .ok (.iload_n 3, 1) := by decide +kernel
theorem dL_law_219 : decode code 219 = .ok (.iconst 1, 1) := by decide +kernel
theorem dL_law_220 : decode code 220 = .ok (.iadd, 1) := by decide +kernel
theorem dL_law_221 : decode code 221 = .ok (.iaload, 1) := by decide +kernel
theorem dL_law_222 : decode code 222 = .ok (.aload_n 0, 1) := by decide +kernel
theorem dL_law_223 : decode code 223 = .ok (.iload_n 3, 1) := by decide +kernel
theorem dL_law_224 : decode code 224 = .ok (.iconst 2, 1) := by decide +kernel
theorem dL_law_225 : decode code 225 = .ok (.iadd, 1) := by decide +kernel
theorem dL_law_226 : decode code 226 = .ok (.iaload, 1) := by decide +kernel
theorem dL_law_227 : decode code 227 = .ok (.invokevirtual 23, 3) := by decide +kernel
theorem dL_law_230 : decode code 230 = .ok (.aload_n 2, 1) := by decide +kernel
theorem dL_law_231 : decode code 231 = .ok (.aload_n 0, 1) := by decide +kernel
theorem dL_law_232 : decode code 232 = .ok (.iload_n 3, 1) := by decide +kernel
theorem dL_law_233 : decode code 233 = .ok (.iconst 1, 1) := by decide +kernel
theorem dL_law_234 : decode code 234 = .ok (.iadd, 1) := by decide +kernel
theorem dL_law_235 : decode code 235 = .ok (.iaload, 1) := by decide +kernel
theorem dL_law_236 : decode code 236 = .ok (.aload_n 0, 1) := by decide +kernel
theorem dL_law_237 : decode code 237 = .ok (.iload_n 3, 1) := by decide +kernel
theorem dL_law_238 : decode code 238 = .ok (.iconst 2, 1) := by decide +kernel
theorem dL_law_239 : decode code 239 = .ok (.iadd, 1) := by decide +kernel
theorem dL_law_240 : decode code 240 = .ok (.iaload, 1) := by decide +kernel
theorem dL_law_241 : decode code 241 = .ok (.invokevirtual 27, 3) := by decide +kernel
theorem dL_law_244 : decode code 244 = .ok (.if_icmp .eq 802, 3) := by decide +kernel
theorem dL_law_247 : decode code 247 = .ok (.iconst 0, 1) := by decide +kernel
theorem dL_law_248 : decode code 248 = .ok (.ireturn, 1) := by decide +kernel
theorem dL_law_249 : decode code 249 = .ok (.aload_n 1, 1) := by decide +kernel
theorem dL_law_250 : decode code 250 = .ok (.aload_n 0, 1) := by decide +kernel
theorem dL_law_251 : decode code 251 = .ok (.iload_n 3, 1) := by decide +kernel
theorem dL_law_252 : decode code 252 = .ok (.iconst 1, 1) := by decide +kernel
theorem dL_law_253 : decode code 253 = .ok (.iadd, 1) := by decide +kernel
theorem dL_law_254 : decode code 254 = .ok (.iaload, 1) := by decide +kernel
theorem dL_law_255 : decode code 255 = .ok (.aload_n 0, 1) := by decide +kernel
theorem dL_law_256 : decode code 256 = .ok (.iload_n 3, 1) := by decide +kernel
theorem dL_law_257 : decode code 257 = .ok (.iconst 2, 1) := by decide +kernel
theorem dL_law_258 : decode code 258 = .ok (.iadd, 1) := by decide +kernel
theorem dL_law_259 : decode code 259 = .ok (.iaload, 1) := by decide +kernel
theorem dL_law_260 : decode code 260 = .ok (.invokevirtual 28, 3) := by decide +kernel
theorem dL_law_263 : decode code 263 = .ok (.aload_n 2, 1) := by decide +kernel
theorem dL_law_264 : decode code 264 = .ok (.aload_n 0, 1) := by decide +kernel
theorem dL_law_265 : decode code 265 = .ok (.iload_n 3, 1) := by decide +kernel
theorem dL_law_266 : decode code 266 = .ok (.iconst 1, 1) := by decide +kernel
theorem dL_law_267 : decode code 267 = .ok (.iadd, 1) := by decide +kernel
theorem dL_law_268 : decode code 268 = .ok (.iaload, 1) := by decide +kernel
theorem dL_law_269 : decode code 269 = .ok (.aload_n 0, 1) := by decide +kernel
theorem dL_law_270 : decode code 270 = .ok (.iload_n 3, 1) := by decide +kernel
theorem dL_law_271 : decode code 271 = .ok (.iconst 2, 1) := by decide +kernel
theorem dL_law_272 : decode code 272 = .ok (.iadd, 1) := by decide +kernel
theorem dL_law_273 : decode code 273 = .ok (.iaload, 1) := by decide +kernel
theorem dL_law_274 : decode code 274 = .ok (.invokevirtual 31, 3) := by decide +kernel
theorem dL_law_277 : decode code 277 = .ok (.if_icmp .eq 769, 3) := by decide +kernel
theorem dL_law_280 : decode code 280 = .ok (.iconst 0, 1) := by decide +kernel
theorem dL_law_281 : decode code 281 = .ok (.ireturn, 1) := by decide +kernel
theorem dL_law_282 : decode code 282 = .ok (.aload_n 1, 1) := by decide +kernel
theorem dL_law_283 : decode code 283 = .ok (.invokevirtual 32, 3) := by decide +kernel
theorem dL_law_286 : decode code 286 = .ok (.aload_n 2, 1) := by decide +kernel
theorem dL_law_287 : decode code 287 = .ok (.invokevirtual 35, 3) := by decide +kernel
theorem dL_law_290 : decode code 290 = .ok (.if_icmp .eq 756, 3) := by decide +kernel
theorem dL_law_293 : decode code 293 = .ok (.iconst 0, 1) := by decide +kernel
theorem dL_law_294 : decode code 294 = .ok (.ireturn, 1) := by decide +kernel
theorem dL_law_295 : decode code 295 = .ok (.aload_n 1, 1) := by decide +kernel
theorem dL_law_296 : decode code 296 = .ok (.aload_n 0, 1) := by decide +kernel
theorem dL_law_297 : decode code 297 = .ok (.iload_n 3, 1) := by decide +kernel
theorem dL_law_298 : decode code 298 = .ok (.iconst 1, 1) := by decide +kernel
theorem dL_law_299 : decode code 299 = .ok (.iadd, 1) := by decide +kernel
theorem dL_law_300 : decode code 300 = .ok (.iaload, 1) := by decide +kernel
theorem dL_law_301 : decode code 301 = .ok (.invokevirtual 36, 3) := by decide +kernel
theorem dL_law_304 : decode code 304 = .ok (.aload_n 2, 1) := by decide +kernel
theorem dL_law_305 : decode code 305 = .ok (.aload_n 0, 1) := by decide +kernel
theorem dL_law_306 : decode code 306 = .ok (.iload_n 3, 1) := by decide +kernel
theorem dL_law_307 : decode code 307 = .ok (.iconst 1, 1) := by decide +kernel
theorem dL_law_308 : decode code 308 = .ok (.iadd, 1) := by decide +kernel
theorem dL_law_309 : decode code 309 = .ok (.iaload, 1) := by decide +kernel
theorem dL_law_310 : decode code 310 = .ok (.invokevirtual 39, 3) := by decide +kernel
theorem dL_law_313 : decode code 313 = .ok (.if_icmp .eq 733, 3) := by decide +kernel
theorem dL_law_316 : decode code 316 = .ok (.iconst 0, 1) := by decide +kernel
theorem dL_law_317 : decode code 317 = .ok (.ireturn, 1) := by decide +kernel
theorem dL_law_318 : decode code 318 = .ok (.aload_n 1, 1) := by decide +kernel
theorem dL_law_319 : decode code 319 = .ok (.aload_n 0, 1) := by decide +kernel
theorem dL_law_320 : decode code 320 = .ok (.iload_n 3, 1) := by decide +kernel
theorem dL_law_321 : decode code 321 = .ok (.iconst 1, 1) := by decide +kernel
theorem dL_law_322 : decode code 322 = .ok (.iadd, 1) := by decide +kernel
theorem dL_law_323 : decode code 323 = .ok (.iaload, 1) := by decide +kernel
theorem dL_law_324 : decode code 324 = .ok (.invokevirtual 40, 3) := by decide +kernel
theorem dL_law_327 : decode code 327 = .ok (.aload_n 2, 1) := by decide +kernel
theorem dL_law_328 : decode code 328 = .ok (.aload_n 0, 1) := by decide +kernel
theorem dL_law_329 : decode code 329 = .ok (.iload_n 3, 1) := by decide +kernel
theorem dL_law_330 : decode code 330 = .ok (.iconst 1, 1) := by decide +kernel
theorem dL_law_331 : decode code 331 = .ok (.iadd, 1) := by decide +kernel
theorem dL_law_332 : decode code 332 = .ok (.iaload, 1) := by decide +kernel
theorem dL_law_333 : decode code 333 = .ok (.invokevirtual 43, 3) := by decide +kernel
theorem dL_law_336 : decode code 336 = .ok (.if_icmp .eq 710, 3) := by decide +kernel
theorem dL_law_339 : decode code 339 = .ok (.iconst 0, 1) := by decide +kernel
theorem dL_law_340 : decode code 340 = .ok (.ireturn, 1) := by decide +kernel
theorem dL_law_341 : decode code 341 = .ok (.aload_n 1, 1) := by decide +kernel
theorem dL_law_342 : decode code 342 = .ok (.aload_n 0, 1) := by decide +kernel
theorem dL_law_343 : decode code 343 = .ok (.iload_n 3, 1) := by decide +kernel
theorem dL_law_344 : decode code 344 = .ok (.iconst 1, 1) := by decide +kernel
theorem dL_law_345 : decode code 345 = .ok (.iadd, 1) := by decide +kernel
theorem dL_law_346 : decode code 346 = .ok (.iaload, 1) := by decide +kernel
theorem dL_law_347 : decode code 347 = .ok (.invokevirtual 44, 3) := by decide +kernel
theorem dL_law_350 : decode code 350 = .ok (.aload_n 2, 1) := by decide +kernel
theorem dL_law_351 : decode code 351 = .ok (.aload_n 0, 1) := by decide +kernel
theorem dL_law_352 : decode code 352 = .ok (.iload_n 3, 1) := by decide +kernel
theorem dL_law_353 : decode code 353 = .ok (.iconst 1, 1) := by decide +kernel
theorem dL_law_354 : decode code 354 = .ok (.iadd, 1) := by decide +kernel
theorem dL_law_355 : decode code 355 = .ok (.iaload, 1) := by decide +kernel
theorem dL_law_356 : decode code 356 = .ok (.invokevirtual 47, 3) := by decide +kernel
theorem dL_law_359 : decode code 359 = .ok (.if_icmp .eq 687, 3) := by decide +kernel
theorem dL_law_362 : decode code 362 = .ok (.iconst 0, 1) := by decide +kernel
theorem dL_law_363 : decode code 363 = .ok (.ireturn, 1) := by decide +kernel
theorem dL_law_364 : decode code 364 = .ok (.aload_n 1, 1) := by decide +kernel
theorem dL_law_365 : decode code 365 = .ok (.invokevirtual 48, 3) := by decide +kernel
theorem dL_law_368 : decode code 368 = .ok (.aload_n 2, 1) := by decide +kernel
theorem dL_law_369 : decode code 369 = .ok (.invokevirtual 51, 3) := by decide +kernel
theorem dL_law_372 : decode code 372 = .ok (.if_icmp .eq 674, 3) := by decide +kernel
theorem dL_law_375 : decode code 375 = .ok (.iconst 0, 1) := by decide +kernel
theorem dL_law_376 : decode code 376 = .ok (.ireturn, 1) := by decide +kernel
theorem dL_law_377 : decode code 377 = .ok (.aload_n 1, 1) := by decide +kernel
theorem dL_law_378 : decode code 378 = .ok (.invokevirtual 52, 3) := by decide +kernel
theorem dL_law_381 : decode code 381 = .ok (.aload_n 2, 1) := by decide +kernel
theorem dL_law_382 : decode code 382 = .ok (.invokevirtual 56, 3) := by decide +kernel
theorem dL_law_385 : decode code 385 = .ok (.lcmp, 1) := by decide +kernel
theorem dL_law_386 : decode code 386 = .ok (.ifCond .eq 660, 3) := by decide +kernel
theorem dL_law_389 : decode code 389 = .ok (.iconst 0, 1) := by decide +kernel
theorem dL_law_390 : decode code 390 = .ok (.ireturn, 1) := by decide +kernel
theorem dL_law_391 : decode code 391 = .ok (.aload_n 1, 1) := by decide +kernel
theorem dL_law_392 : decode code 392 = .ok (.aload_n 0, 1) := by decide +kernel
theorem dL_law_393 : decode code 393 = .ok (.iload_n 3, 1) := by decide +kernel
theorem dL_law_394 : decode code 394 = .ok (.iconst 1, 1) := by decide +kernel
theorem dL_law_395 : decode code 395 = .ok (.iadd, 1) := by decide +kernel
theorem dL_law_396 : decode code 396 = .ok (.iaload, 1) := by decide +kernel
theorem dL_law_397 : decode code 397 = .ok (.invokevirtual 57, 3) := by decide +kernel
theorem dL_law_400 : decode code 400 = .ok (.aload_n 2, 1) := by decide +kernel
theorem dL_law_401 : decode code 401 = .ok (.aload_n 0, 1) := by decide +kernel
theorem dL_law_402 : decode code 402 = .ok (.iload_n 3, 1) := by decide +kernel
theorem dL_law_403 : decode code 403 = .ok (.iconst 1, 1) := by decide +kernel
theorem dL_law_404 : decode code 404 = .ok (.iadd, 1) := by decide +kernel
theorem dL_law_405 : decode code 405 = .ok (.iaload, 1) := by decide +kernel
theorem dL_law_406 : decode code 406 = .ok (.invokevirtual 60, 3) := by decide +kernel
theorem dL_law_409 : decode code 409 = .ok (.if_icmp .eq 637, 3) := by decide +kernel
theorem dL_law_412 : decode code 412 = .ok (.iconst 0, 1) := by decide +kernel
theorem dL_law_413 : decode code 413 = .ok (.ireturn, 1) := by decide +kernel
theorem dL_law_414 : decode code 414 = .ok (.aload_n 1, 1) := by decide +kernel
theorem dL_law_415 : decode code 415 = .ok (.aload_n 0, 1) := by decide +kernel
theorem dL_law_416 : decode code 416 = .ok (.iload_n 3, 1) := by decide +kernel
theorem dL_law_417 : decode code 417 = .ok (.iconst 1, 1) := by decide +kernel
theorem dL_law_418 : decode code 418 = .ok (.iadd, 1) := by decide +kernel
theorem dL_law_419 : decode code 419 = .ok (.iaload, 1) := by decide +kernel
theorem dL_law_420 : decode code 420 = .ok (.aload_n 0, 1) := by decide +kernel
theorem dL_law_421 : decode code 421 = .ok (.iload_n 3, 1) := by decide +kernel
theorem dL_law_422 : decode code 422 = .ok (.iconst 2, 1) := by decide +kernel
theorem dL_law_423 : decode code 423 = .ok (.iadd, 1) := by decide +kernel
theorem dL_law_424 : decode code 424 = .ok (.iaload, 1) := by decide +kernel
theorem dL_law_425 : decode code 425 = .ok (.invokevirtual 61, 3) := by decide +kernel
theorem dL_law_428 : decode code 428 = .ok (.aload_n 2, 1) := by decide +kernel
theorem dL_law_429 : decode code 429 = .ok (.aload_n 0, 1) := by decide +kernel
theorem dL_law_430 : decode code 430 = .ok (.iload_n 3, 1) := by decide +kernel
theorem dL_law_431 : decode code 431 = .ok (.iconst 1, 1) := by decide +kernel
theorem dL_law_432 : decode code 432 = .ok (.iadd, 1) := by decide +kernel
theorem dL_law_433 : decode code 433 = .ok (.iaload, 1) := by decide +kernel
theorem dL_law_434 : decode code 434 = .ok (.aload_n 0, 1) := by decide +kernel
theorem dL_law_435 : decode code 435 = .ok (.iload_n 3, 1) := by decide +kernel
theorem dL_law_436 : decode code 436 = .ok (.iconst 2, 1) := by decide +kernel
theorem dL_law_437 : decode code 437 = .ok (.iadd, 1) := by decide +kernel
theorem dL_law_438 : decode code 438 = .ok (.iaload, 1) := by decide +kernel
theorem dL_law_439 : decode code 439 = .ok (.invokevirtual 65, 3) := by decide +kernel
theorem dL_law_442 : decode code 442 = .ok (.lcmp, 1) := by decide +kernel
theorem dL_law_443 : decode code 443 = .ok (.ifCond .eq 603, 3) := by decide +kernel
theorem dL_law_446 : decode code 446 = .ok (.iconst 0, 1) := by decide +kernel
theorem dL_law_447 : decode code 447 = .ok (.ireturn, 1) := by decide +kernel
theorem dL_law_448 : decode code 448 = .ok (.aload_n 1, 1) := by decide +kernel
theorem dL_law_449 : decode code 449 = .ok (.aload_n 0, 1) := by decide +kernel
theorem dL_law_450 : decode code 450 = .ok (.iload_n 3, 1) := by decide +kernel
theorem dL_law_451 : decode code 451 = .ok (.iconst 1, 1) := by decide +kernel
theorem dL_law_452 : decode code 452 = .ok (.iadd, 1) := by decide +kernel
theorem dL_law_453 : decode code 453 = .ok (.iaload, 1) := by decide +kernel
theorem dL_law_454 : decode code 454 = .ok (.aload_n 0, 1) := by decide +kernel
theorem dL_law_455 : decode code 455 = .ok (.iload_n 3, 1) := by decide +kernel
theorem dL_law_456 : decode code 456 = .ok (.iconst 2, 1) := by decide +kernel
theorem dL_law_457 : decode code 457 = .ok (.iadd, 1) := by decide +kernel
theorem dL_law_458 : decode code 458 = .ok (.iaload, 1) := by decide +kernel
theorem dL_law_459 : decode code 459 = .ok (.aload_n 0, 1) := by decide +kernel
theorem dL_law_460 : decode code 460 = .ok (.iload_n 3, 1) := by decide +kernel
theorem dL_law_461 : decode code 461 = .ok (.iconst 3, 1) := by decide +kernel
theorem dL_law_462 : decode code 462 = .ok (.iadd, 1) := by decide +kernel
theorem dL_law_463 : decode code 463 = .ok (.iaload, 1) := by decide +kernel
theorem dL_law_464 : decode code 464 = .ok (.invokevirtual 66, 3) := by decide +kernel
theorem dL_law_467 : decode code 467 = .ok (.aload_n 2, 1) := by decide +kernel
theorem dL_law_468 : decode code 468 = .ok (.aload_n 0, 1) := by decide +kernel
theorem dL_law_469 : decode code 469 = .ok (.iload_n 3, 1) := by decide +kernel
theorem dL_law_470 : decode code 470 = .ok (.iconst 1, 1) := by decide +kernel
theorem dL_law_471 : decode code 471 = .ok (.iadd, 1) := by decide +kernel
theorem dL_law_472 : decode code 472 = .ok (.iaload, 1) := by decide +kernel
theorem dL_law_473 : decode code 473 = .ok (.aload_n 0, 1) := by decide +kernel
theorem dL_law_474 : decode code 474 = .ok (.iload_n 3, 1) := by decide +kernel
theorem dL_law_475 : decode code 475 = .ok (.iconst 2, 1) := by decide +kernel
theorem dL_law_476 : decode code 476 = .ok (.iadd, 1) := by decide +kernel
theorem dL_law_477 : decode code 477 = .ok (.iaload, 1) := by decide +kernel
theorem dL_law_478 : decode code 478 = .ok (.aload_n 0, 1) := by decide +kernel
theorem dL_law_479 : decode code 479 = .ok (.iload_n 3, 1) := by decide +kernel
theorem dL_law_480 : decode code 480 = .ok (.iconst 3, 1) := by decide +kernel
theorem dL_law_481 : decode code 481 = .ok (.iadd, 1) := by decide +kernel
theorem dL_law_482 : decode code 482 = .ok (.iaload, 1) := by decide +kernel
theorem dL_law_483 : decode code 483 = .ok (.invokevirtual 70, 3) := by decide +kernel
theorem dL_law_486 : decode code 486 = .ok (.lcmp, 1) := by decide +kernel
theorem dL_law_487 : decode code 487 = .ok (.ifCond .eq 559, 3) := by decide +kernel
theorem dL_law_490 : decode code 490 = .ok (.iconst 0, 1) := by decide +kernel
theorem dL_law_491 : decode code 491 = .ok (.ireturn, 1) := by decide +kernel
theorem dL_law_492 : decode code 492 = .ok (.aload_n 1, 1) := by decide +kernel
theorem dL_law_493 : decode code 493 = .ok (.aload_n 0, 1) := by decide +kernel
theorem dL_law_494 : decode code 494 = .ok (.iload_n 3, 1) := by decide +kernel
theorem dL_law_495 : decode code 495 = .ok (.iconst 1, 1) := by decide +kernel
theorem dL_law_496 : decode code 496 = .ok (.iadd, 1) := by decide +kernel
theorem dL_law_497 : decode code 497 = .ok (.iaload, 1) := by decide +kernel
theorem dL_law_498 : decode code 498 = .ok (.aload_n 0, 1) := by decide +kernel
theorem dL_law_499 : decode code 499 = .ok (.iload_n 3, 1) := by decide +kernel
theorem dL_law_500 : decode code 500 = .ok (.iconst 2, 1) := by decide +kernel
theorem dL_law_501 : decode code 501 = .ok (.iadd, 1) := by decide +kernel
theorem dL_law_502 : decode code 502 = .ok (.iaload, 1) := by decide +kernel
theorem dL_law_503 : decode code 503 = .ok (.invokevirtual 71, 3) := by decide +kernel
theorem dL_law_506 : decode code 506 = .ok (.aload_n 2, 1) := by decide +kernel
theorem dL_law_507 : decode code 507 = .ok (.aload_n 0, 1) := by decide +kernel
theorem dL_law_508 : decode code 508 = .ok (.iload_n 3, 1) := by decide +kernel
theorem dL_law_509 : decode code 509 = .ok (.iconst 1, 1) := by decide +kernel
theorem dL_law_510 : decode code 510 = .ok (.iadd, 1) := by decide +kernel
theorem dL_law_511 : decode code 511 = .ok (.iaload, 1) := by decide +kernel
theorem dL_law_512 : decode code 512 = .ok (.aload_n 0, 1) := by decide +kernel
theorem dL_law_513 : decode code 513 = .ok (.iload_n 3, 1) := by decide +kernel
theorem dL_law_514 : decode code 514 = .ok (.iconst 2, 1) := by decide +kernel
theorem dL_law_515 : decode code 515 = .ok (.iadd, 1) := by decide +kernel
theorem dL_law_516 : decode code 516 = .ok (.iaload, 1) := by decide +kernel
theorem dL_law_517 : decode code 517 = .ok (.invokevirtual 74, 3) := by decide +kernel
theorem dL_law_520 : decode code 520 = .ok (.if_icmp .eq 526, 3) := by decide +kernel
theorem dL_law_523 : decode code 523 = .ok (.iconst 0, 1) := by decide +kernel
theorem dL_law_524 : decode code 524 = .ok (.ireturn, 1) := by decide +kernel
theorem dL_law_525 : decode code 525 = .ok (.aload_n 1, 1) := by decide +kernel
theorem dL_law_526 : decode code 526 = .ok (.invokevirtual 75, 3) := by decide +kernel
theorem dL_law_529 : decode code 529 = .ok (.aload_n 2, 1) := by decide +kernel
theorem dL_law_530 : decode code 530 = .ok (.invokevirtual 78, 3) := by decide +kernel
theorem dL_law_533 : decode code 533 = .ok (.if_icmp .eq 513, 3) := by decide +kernel
theorem dL_law_536 : decode code 536 = .ok (.iconst 0, 1) := by decide +kernel
theorem dL_law_537 : decode code 537 = .ok (.ireturn, 1) := by decide +kernel
theorem dL_law_538 : decode code 538 = .ok (.aload_n 1, 1) := by decide +kernel
theorem dL_law_539 : decode code 539 = .ok (.invokevirtual 79, 3) := by decide +kernel
theorem dL_law_542 : decode code 542 = .ok (.aload_n 2, 1) := by decide +kernel
theorem dL_law_543 : decode code 543 = .ok (.invokevirtual 82, 3) := by decide +kernel
theorem dL_law_546 : decode code 546 = .ok (.if_icmp .eq 500, 3) := by decide +kernel
theorem dL_law_549 : decode code 549 = .ok (.iconst 0, 1) := by decide +kernel
theorem dL_law_550 : decode code 550 = .ok (.ireturn, 1) := by decide +kernel
theorem dL_law_551 : decode code 551 = .ok (.aload_n 1, 1) := by decide +kernel
theorem dL_law_552 : decode code 552 = .ok (.aload_n 0, 1) := by decide +kernel
theorem dL_law_553 : decode code 553 = .ok (.iload_n 3, 1) := by decide +kernel
theorem dL_law_554 : decode code 554 = .ok (.iconst 1, 1) := by decide +kernel
theorem dL_law_555 : decode code 555 = .ok (.iadd, 1) := by decide +kernel
theorem dL_law_556 : decode code 556 = .ok (.iaload, 1) := by decide +kernel
theorem dL_law_557 : decode code 557 = .ok (.aload_n 0, 1) := by decide +kernel
theorem dL_law_558 : decode code 558 = .ok (.iload_n 3, 1) := by decide +kernel
theorem dL_law_559 : decode code 559 = .ok (.iconst 2, 1) := by decide +kernel
theorem dL_law_560 : decode code 560 = .ok (.iadd, 1) := by decide +kernel
theorem dL_law_561 : decode code 561 = .ok (.iaload, 1) := by decide +kernel
theorem dL_law_562 : decode code 562 = .ok (.invokevirtual 83, 3) := by decide +kernel
theorem dL_law_565 : decode code 565 = .ok (.aload_n 2, 1) := by decide +kernel
theorem dL_law_566 : decode code 566 = .ok (.aload_n 0, 1) := by decide +kernel
theorem dL_law_567 : decode code 567 = .ok (.iload_n 3, 1) := by decide +kernel
theorem dL_law_568 : decode code 568 = .ok (.iconst 1, 1) := by decide +kernel
theorem dL_law_569 : decode code 569 = .ok (.iadd, 1) := by decide +kernel
theorem dL_law_570 : decode code 570 = .ok (.iaload, 1) := by decide +kernel
theorem dL_law_571 : decode code 571 = .ok (.aload_n 0, 1) := by decide +kernel
theorem dL_law_572 : decode code 572 = .ok (.iload_n 3, 1) := by decide +kernel
theorem dL_law_573 : decode code 573 = .ok (.iconst 2, 1) := by decide +kernel
theorem dL_law_574 : decode code 574 = .ok (.iadd, 1) := by decide +kernel
theorem dL_law_575 : decode code 575 = .ok (.iaload, 1) := by decide +kernel
theorem dL_law_576 : decode code 576 = .ok (.invokevirtual 86, 3) := by decide +kernel
theorem dL_law_579 : decode code 579 = .ok (.if_icmp .eq 467, 3) := by decide +kernel
theorem dL_law_582 : decode code 582 = .ok (.iconst 0, 1) := by decide +kernel
theorem dL_law_583 : decode code 583 = .ok (.ireturn, 1) := by decide +kernel
theorem dL_law_584 : decode code 584 = .ok (.aload_n 1, 1) := by decide +kernel
theorem dL_law_585 : decode code 585 = .ok (.aload_n 0, 1) := by decide +kernel
theorem dL_law_586 : decode code 586 = .ok (.iload_n 3, 1) := by decide +kernel
theorem dL_law_587 : decode code 587 = .ok (.iconst 1, 1) := by decide +kernel
theorem dL_law_588 : decode code 588 = .ok (.iadd, 1) := by decide +kernel
theorem dL_law_589 : decode code 589 = .ok (.iaload, 1) := by decide +kernel
theorem dL_law_590 : decode code 590 = .ok (.aload_n 0, 1) := by decide +kernel
theorem dL_law_591 : decode code 591 = .ok (.iload_n 3, 1) := by decide +kernel
theorem dL_law_592 : decode code 592 = .ok (.iconst 2, 1) := by decide +kernel
theorem dL_law_593 : decode code 593 = .ok (.iadd, 1) := by decide +kernel
theorem dL_law_594 : decode code 594 = .ok (.iaload, 1) := by decide +kernel
theorem dL_law_595 : decode code 595 = .ok (.invokevirtual 87, 3) := by decide +kernel
theorem dL_law_598 : decode code 598 = .ok (.aload_n 2, 1) := by decide +kernel
theorem dL_law_599 : decode code 599 = .ok (.aload_n 0, 1) := by decide +kernel
theorem dL_law_600 : decode code 600 = .ok (.iload_n 3, 1) := by decide +kernel
theorem dL_law_601 : decode code 601 = .ok (.iconst 1, 1) := by decide +kernel
theorem dL_law_602 : decode code 602 = .ok (.iadd, 1) := by decide +kernel
theorem dL_law_603 : decode code 603 = .ok (.iaload, 1) := by decide +kernel
theorem dL_law_604 : decode code 604 = .ok (.aload_n 0, 1) := by decide +kernel
theorem dL_law_605 : decode code 605 = .ok (.iload_n 3, 1) := by decide +kernel
theorem dL_law_606 : decode code 606 = .ok (.iconst 2, 1) := by decide +kernel
theorem dL_law_607 : decode code 607 = .ok (.iadd, 1) := by decide +kernel
theorem dL_law_608 : decode code 608 = .ok (.iaload, 1) := by decide +kernel
theorem dL_law_609 : decode code 609 = .ok (.invokevirtual 90, 3) := by decide +kernel
theorem dL_law_612 : decode code 612 = .ok (.if_icmp .eq 434, 3) := by decide +kernel
theorem dL_law_615 : decode code 615 = .ok (.iconst 0, 1) := by decide +kernel
theorem dL_law_616 : decode code 616 = .ok (.ireturn, 1) := by decide +kernel
theorem dL_law_617 : decode code 617 = .ok (.aload_n 1, 1) := by decide +kernel
theorem dL_law_618 : decode code 618 = .ok (.aload_n 0, 1) := by decide +kernel
theorem dL_law_619 : decode code 619 = .ok (.iload_n 3, 1) := by decide +kernel
theorem dL_law_620 : decode code 620 = .ok (.iconst 1, 1) := by decide +kernel
theorem dL_law_621 : decode code 621 = .ok (.iadd, 1) := by decide +kernel
theorem dL_law_622 : decode code 622 = .ok (.iaload, 1) := by decide +kernel
theorem dL_law_623 : decode code 623 = .ok (.aload_n 0, 1) := by decide +kernel
theorem dL_law_624 : decode code 624 = .ok (.iload_n 3, 1) := by decide +kernel
theorem dL_law_625 : decode code 625 = .ok (.iconst 2, 1) := by decide +kernel
theorem dL_law_626 : decode code 626 = .ok (.iadd, 1) := by decide +kernel
theorem dL_law_627 : decode code 627 = .ok (.iaload, 1) := by decide +kernel
theorem dL_law_628 : decode code 628 = .ok (.invokevirtual 91, 3) := by decide +kernel
theorem dL_law_631 : decode code 631 = .ok (.aload_n 2, 1) := by decide +kernel
theorem dL_law_632 : decode code 632 = .ok (.aload_n 0, 1) := by decide +kernel
theorem dL_law_633 : decode code 633 = .ok (.iload_n 3, 1) := by decide +kernel
theorem dL_law_634 : decode code 634 = .ok (.iconst 1, 1) := by decide +kernel
theorem dL_law_635 : decode code 635 = .ok (.iadd, 1) := by decide +kernel
theorem dL_law_636 : decode code 636 = .ok (.iaload, 1) := by decide +kernel
theorem dL_law_637 : decode code 637 = .ok (.aload_n 0, 1) := by decide +kernel
theorem dL_law_638 : decode code 638 = .ok (.iload_n 3, 1) := by decide +kernel
theorem dL_law_639 : decode code 639 = .ok (.iconst 2, 1) := by decide +kernel
theorem dL_law_640 : decode code 640 = .ok (.iadd, 1) := by decide +kernel
theorem dL_law_641 : decode code 641 = .ok (.iaload, 1) := by decide +kernel
theorem dL_law_642 : decode code 642 = .ok (.invokevirtual 94, 3) := by decide +kernel
theorem dL_law_645 : decode code 645 = .ok (.if_icmp .eq 401, 3) := by decide +kernel
theorem dL_law_648 : decode code 648 = .ok (.iconst 0, 1) := by decide +kernel
theorem dL_law_649 : decode code 649 = .ok (.ireturn, 1) := by decide +kernel
theorem dL_law_650 : decode code 650 = .ok (.aload_n 1, 1) := by decide +kernel
theorem dL_law_651 : decode code 651 = .ok (.aload_n 0, 1) := by decide +kernel
theorem dL_law_652 : decode code 652 = .ok (.iload_n 3, 1) := by decide +kernel
theorem dL_law_653 : decode code 653 = .ok (.iconst 1, 1) := by decide +kernel
theorem dL_law_654 : decode code 654 = .ok (.iadd, 1) := by decide +kernel
theorem dL_law_655 : decode code 655 = .ok (.iaload, 1) := by decide +kernel
theorem dL_law_656 : decode code 656 = .ok (.aload_n 0, 1) := by decide +kernel
theorem dL_law_657 : decode code 657 = .ok (.iload_n 3, 1) := by decide +kernel
theorem dL_law_658 : decode code 658 = .ok (.iconst 2, 1) := by decide +kernel
theorem dL_law_659 : decode code 659 = .ok (.iadd, 1) := by decide +kernel
theorem dL_law_660 : decode code 660 = .ok (.iaload, 1) := by decide +kernel
theorem dL_law_661 : decode code 661 = .ok (.invokevirtual 95, 3) := by decide +kernel
theorem dL_law_664 : decode code 664 = .ok (.aload_n 2, 1) := by decide +kernel
theorem dL_law_665 : decode code 665 = .ok (.aload_n 0, 1) := by decide +kernel
theorem dL_law_666 : decode code 666 = .ok (.iload_n 3, 1) := by decide +kernel
theorem dL_law_667 : decode code 667 = .ok (.iconst 1, 1) := by decide +kernel
theorem dL_law_668 : decode code 668 = .ok (.iadd, 1) := by decide +kernel
theorem dL_law_669 : decode code 669 = .ok (.iaload, 1) := by decide +kernel
theorem dL_law_670 : decode code 670 = .ok (.aload_n 0, 1) := by decide +kernel
theorem dL_law_671 : decode code 671 = .ok (.iload_n 3, 1) := by decide +kernel
theorem dL_law_672 : decode code 672 = .ok (.iconst 2, 1) := by decide +kernel
theorem dL_law_673 : decode code 673 = .ok (.iadd, 1) := by decide +kernel
theorem dL_law_674 : decode code 674 = .ok (.iaload, 1) := by decide +kernel
theorem dL_law_675 : decode code 675 = .ok (.invokevirtual 98, 3) := by decide +kernel
theorem dL_law_678 : decode code 678 = .ok (.lcmp, 1) := by decide +kernel
theorem dL_law_679 : decode code 679 = .ok (.ifCond .eq 367, 3) := by decide +kernel
theorem dL_law_682 : decode code 682 = .ok (.iconst 0, 1) := by decide +kernel
theorem dL_law_683 : decode code 683 = .ok (.ireturn, 1) := by decide +kernel
theorem dL_law_684 : decode code 684 = .ok (.aload_n 1, 1) := by decide +kernel
theorem dL_law_685 : decode code 685 = .ok (.aload_n 0, 1) := by decide +kernel
theorem dL_law_686 : decode code 686 = .ok (.iload_n 3, 1) := by decide +kernel
theorem dL_law_687 : decode code 687 = .ok (.iconst 1, 1) := by decide +kernel
theorem dL_law_688 : decode code 688 = .ok (.iadd, 1) := by decide +kernel
theorem dL_law_689 : decode code 689 = .ok (.iaload, 1) := by decide +kernel
theorem dL_law_690 : decode code 690 = .ok (.invokevirtual 99, 3) := by decide +kernel
theorem dL_law_693 : decode code 693 = .ok (.aload_n 2, 1) := by decide +kernel
theorem dL_law_694 : decode code 694 = .ok (.aload_n 0, 1) := by decide +kernel
theorem dL_law_695 : decode code 695 = .ok (.iload_n 3, 1) := by decide +kernel
theorem dL_law_696 : decode code 696 = .ok (.iconst 1, 1) := by decide +kernel
theorem dL_law_697 : decode code 697 = .ok (.iadd, 1) := by decide +kernel
theorem dL_law_698 : decode code 698 = .ok (.iaload, 1) := by decide +kernel
theorem dL_law_699 : decode code 699 = .ok (.invokevirtual 102, 3) := by decide +kernel
theorem dL_law_702 : decode code 702 = .ok (.if_icmp .eq 344, 3) := by decide +kernel
theorem dL_law_705 : decode code 705 = .ok (.iconst 0, 1) := by decide +kernel
theorem dL_law_706 : decode code 706 = .ok (.ireturn, 1) := by decide +kernel
theorem dL_law_707 : decode code 707 = .ok (.aload_n 1, 1) := by decide +kernel
theorem dL_law_708 : decode code 708 = .ok (.aload_n 0, 1) := by decide +kernel
theorem dL_law_709 : decode code 709 = .ok (.iload_n 3, 1) := by decide +kernel
theorem dL_law_710 : decode code 710 = .ok (.iconst 1, 1) := by decide +kernel
theorem dL_law_711 : decode code 711 = .ok (.iadd, 1) := by decide +kernel
theorem dL_law_712 : decode code 712 = .ok (.iaload, 1) := by decide +kernel
theorem dL_law_713 : decode code 713 = .ok (.invokevirtual 103, 3) := by decide +kernel
theorem dL_law_716 : decode code 716 = .ok (.aload_n 2, 1) := by decide +kernel
theorem dL_law_717 : decode code 717 = .ok (.aload_n 0, 1) := by decide +kernel
theorem dL_law_718 : decode code 718 = .ok (.iload_n 3, 1) := by decide +kernel
theorem dL_law_719 : decode code 719 = .ok (.iconst 1, 1) := by decide +kernel
theorem dL_law_720 : decode code 720 = .ok (.iadd, 1) := by decide +kernel
theorem dL_law_721 : decode code 721 = .ok (.iaload, 1) := by decide +kernel
theorem dL_law_722 : decode code 722 = .ok (.invokevirtual 106, 3) := by decide +kernel
theorem dL_law_725 : decode code 725 = .ok (.if_icmp .eq 321, 3) := by decide +kernel
theorem dL_law_728 : decode code 728 = .ok (.iconst 0, 1) := by decide +kernel
theorem dL_law_729 : decode code 729 = .ok (.ireturn, 1) := by decide +kernel
theorem dL_law_730 : decode code 730 = .ok (.aload_n 1, 1) := by decide +kernel
theorem dL_law_731 : decode code 731 = .ok (.aload_n 0, 1) := by decide +kernel
theorem dL_law_732 : decode code 732 = .ok (.iload_n 3, 1) := by decide +kernel
theorem dL_law_733 : decode code 733 = .ok (.iconst 1, 1) := by decide +kernel
theorem dL_law_734 : decode code 734 = .ok (.iadd, 1) := by decide +kernel
theorem dL_law_735 : decode code 735 = .ok (.iaload, 1) := by decide +kernel
theorem dL_law_736 : decode code 736 = .ok (.aload_n 0, 1) := by decide +kernel
theorem dL_law_737 : decode code 737 = .ok (.iload_n 3, 1) := by decide +kernel
theorem dL_law_738 : decode code 738 = .ok (.iconst 2, 1) := by decide +kernel
theorem dL_law_739 : decode code 739 = .ok (.iadd, 1) := by decide +kernel
theorem dL_law_740 : decode code 740 = .ok (.iaload, 1) := by decide +kernel
theorem dL_law_741 : decode code 741 = .ok (.aload_n 0, 1) := by decide +kernel
theorem dL_law_742 : decode code 742 = .ok (.iload_n 3, 1) := by decide +kernel
theorem dL_law_743 : decode code 743 = .ok (.iconst 3, 1) := by decide +kernel
theorem dL_law_744 : decode code 744 = .ok (.iadd, 1) := by decide +kernel
theorem dL_law_745 : decode code 745 = .ok (.iaload, 1) := by decide +kernel
theorem dL_law_746 : decode code 746 = .ok (.invokevirtual 107, 3) := by decide +kernel
theorem dL_law_749 : decode code 749 = .ok (.aload_n 2, 1) := by decide +kernel
theorem dL_law_750 : decode code 750 = .ok (.aload_n 0, 1) := by decide +kernel
theorem dL_law_751 : decode code 751 = .ok (.iload_n 3, 1) := by decide +kernel
theorem dL_law_752 : decode code 752 = .ok (.iconst 1, 1) := by decide +kernel
theorem dL_law_753 : decode code 753 = .ok (.iadd, 1) := by decide +kernel
theorem dL_law_754 : decode code 754 = .ok (.iaload, 1) := by decide +kernel
theorem dL_law_755 : decode code 755 = .ok (.aload_n 0, 1) := by decide +kernel
theorem dL_law_756 : decode code 756 = .ok (.iload_n 3, 1) := by decide +kernel
theorem dL_law_757 : decode code 757 = .ok (.iconst 2, 1) := by decide +kernel
theorem dL_law_758 : decode code 758 = .ok (.iadd, 1) := by decide +kernel
theorem dL_law_759 : decode code 759 = .ok (.iaload, 1) := by decide +kernel
theorem dL_law_760 : decode code 760 = .ok (.aload_n 0, 1) := by decide +kernel
theorem dL_law_761 : decode code 761 = .ok (.iload_n 3, 1) := by decide +kernel
theorem dL_law_762 : decode code 762 = .ok (.iconst 3, 1) := by decide +kernel
theorem dL_law_763 : decode code 763 = .ok (.iadd, 1) := by decide +kernel
theorem dL_law_764 : decode code 764 = .ok (.iaload, 1) := by decide +kernel
theorem dL_law_765 : decode code 765 = .ok (.invokevirtual 110, 3) := by decide +kernel
theorem dL_law_768 : decode code 768 = .ok (.lcmp, 1) := by decide +kernel
theorem dL_law_769 : decode code 769 = .ok (.ifCond .eq 277, 3) := by decide +kernel
theorem dL_law_772 : decode code 772 = .ok (.iconst 0, 1) := by decide +kernel
theorem dL_law_773 : decode code 773 = .ok (.ireturn, 1) := by decide +kernel
theorem dL_law_774 : decode code 774 = .ok (.aload_n 1, 1) := by decide +kernel
theorem dL_law_775 : decode code 775 = .ok (.aload_n 0, 1) := by decide +kernel
theorem dL_law_776 : decode code 776 = .ok (.iload_n 3, 1) := by decide +kernel
theorem dL_law_777 : decode code 777 = .ok (.iconst 1, 1) := by decide +kernel
theorem dL_law_778 : decode code 778 = .ok (.iadd, 1) := by decide +kernel
theorem dL_law_779 : decode code 779 = .ok (.iaload, 1) := by decide +kernel
theorem dL_law_780 : decode code 780 = .ok (.aload_n 0, 1) := by decide +kernel
theorem dL_law_781 : decode code 781 = .ok (.iload_n 3, 1) := by decide +kernel
theorem dL_law_782 : decode code 782 = .ok (.iconst 2, 1) := by decide +kernel
theorem dL_law_783 : decode code 783 = .ok (.iadd, 1) := by decide +kernel
theorem dL_law_784 : decode code 784 = .ok (.iaload, 1) := by decide +kernel
theorem dL_law_785 : decode code 785 = .ok (.aload_n 0, 1) := by decide +kernel
theorem dL_law_786 : decode code 786 = .ok (.iload_n 3, 1) := by decide +kernel
theorem dL_law_787 : decode code 787 = .ok (.iconst 3, 1) := by decide +kernel
theorem dL_law_788 : decode code 788 = .ok (.iadd, 1) := by decide +kernel
theorem dL_law_789 : decode code 789 = .ok (.iaload, 1) := by decide +kernel
theorem dL_law_790 : decode code 790 = .ok (.invokevirtual 111, 3) := by decide +kernel
theorem dL_law_793 : decode code 793 = .ok (.aload_n 2, 1) := by decide +kernel
theorem dL_law_794 : decode code 794 = .ok (.aload_n 0, 1) := by decide +kernel
theorem dL_law_795 : decode code 795 = .ok (.iload_n 3, 1) := by decide +kernel
theorem dL_law_796 : decode code 796 = .ok (.iconst 1, 1) := by decide +kernel
theorem dL_law_797 : decode code 797 = .ok (.iadd, 1) := by decide +kernel
theorem dL_law_798 : decode code 798 = .ok (.iaload, 1) := by decide +kernel
theorem dL_law_799 : decode code 799 = .ok (.aload_n 0, 1) := by decide +kernel
theorem dL_law_800 : decode code 800 = .ok (.iload_n 3, 1) := by decide +kernel
theorem dL_law_801 : decode code 801 = .ok (.iconst 2, 1) := by decide +kernel
theorem dL_law_802 : decode code 802 = .ok (.iadd, 1) := by decide +kernel
theorem dL_law_803 : decode code 803 = .ok (.iaload, 1) := by decide +kernel
theorem dL_law_804 : decode code 804 = .ok (.aload_n 0, 1) := by decide +kernel
theorem dL_law_805 : decode code 805 = .ok (.iload_n 3, 1) := by decide +kernel
theorem dL_law_806 : decode code 806 = .ok (.iconst 3, 1) := by decide +kernel
theorem dL_law_807 : decode code 807 = .ok (.iadd, 1) := by decide +kernel
theorem dL_law_808 : decode code 808 = .ok (.iaload, 1) := by decide +kernel
theorem dL_law_809 : decode code 809 = .ok (.invokevirtual 114, 3) := by decide +kernel
theorem dL_law_812 : decode code 812 = .ok (.lcmp, 1) := by decide +kernel
theorem dL_law_813 : decode code 813 = .ok (.ifCond .eq 233, 3) := by decide +kernel
theorem dL_law_816 : decode code 816 = .ok (.iconst 0, 1) := by decide +kernel
theorem dL_law_817 : decode code 817 = .ok (.ireturn, 1) := by decide +kernel
theorem dL_law_818 : decode code 818 = .ok (.aload_n 1, 1) := by decide +kernel
theorem dL_law_819 : decode code 819 = .ok (.aload_n 0, 1) := by decide +kernel
theorem dL_law_820 : decode code 820 = .ok (.iload_n 3, 1) := by decide +kernel
theorem dL_law_821 : decode code 821 = .ok (.iconst 1, 1) := by decide +kernel
theorem dL_law_822 : decode code 822 = .ok (.iadd, 1) := by decide +kernel
theorem dL_law_823 : decode code 823 = .ok (.iaload, 1) := by decide +kernel
theorem dL_law_824 : decode code 824 = .ok (.invokevirtual 115, 3) := by decide +kernel
theorem dL_law_827 : decode code 827 = .ok (.aload_n 2, 1) := by decide +kernel
theorem dL_law_828 : decode code 828 = .ok (.aload_n 0, 1) := by decide +kernel
theorem dL_law_829 : decode code 829 = .ok (.iload_n 3, 1) := by decide +kernel
theorem dL_law_830 : decode code 830 = .ok (.iconst 1, 1) := by decide +kernel
theorem dL_law_831 : decode code 831 = .ok (.iadd, 1) := by decide +kernel
theorem dL_law_832 : decode code 832 = .ok (.iaload, 1) := by decide +kernel
theorem dL_law_833 : decode code 833 = .ok (.invokevirtual 119, 3) := by decide +kernel
theorem dL_law_836 : decode code 836 = .ok (.lcmp, 1) := by decide +kernel
theorem dL_law_837 : decode code 837 = .ok (.ifCond .eq 209, 3) := by decide +kernel
theorem dL_law_840 : decode code 840 = .ok (.iconst 0, 1) := by decide +kernel
theorem dL_law_841 : decode code 841 = .ok (.ireturn, 1) := by decide +kernel
theorem dL_law_842 : decode code 842 = .ok (.aload_n 1, 1) := by decide +kernel
theorem dL_law_843 : decode code 843 = .ok (.aload_n 0, 1) := by decide +kernel
theorem dL_law_844 : decode code 844 = .ok (.iload_n 3, 1) := by decide +kernel
theorem dL_law_845 : decode code 845 = .ok (.iconst 1, 1) := by decide +kernel
theorem dL_law_846 : decode code 846 = .ok (.iadd, 1) := by decide +kernel
theorem dL_law_847 : decode code 847 = .ok (.iaload, 1) := by decide +kernel
theorem dL_law_848 : decode code 848 = .ok (.aload_n 0, 1) := by decide +kernel
theorem dL_law_849 : decode code 849 = .ok (.iload_n 3, 1) := by decide +kernel
theorem dL_law_850 : decode code 850 = .ok (.iconst 2, 1) := by decide +kernel
theorem dL_law_851 : decode code 851 = .ok (.iadd, 1) := by decide +kernel
theorem dL_law_852 : decode code 852 = .ok (.iaload, 1) := by decide +kernel
theorem dL_law_853 : decode code 853 = .ok (.invokevirtual 120, 3) := by decide +kernel
theorem dL_law_856 : decode code 856 = .ok (.aload_n 2, 1) := by decide +kernel
theorem dL_law_857 : decode code 857 = .ok (.aload_n 0, 1) := by decide +kernel
theorem dL_law_858 : decode code 858 = .ok (.iload_n 3, 1) := by decide +kernel
theorem dL_law_859 : decode code 859 = .ok (.iconst 1, 1) := by decide +kernel
theorem dL_law_860 : decode code 860 = .ok (.iadd, 1) := by decide +kernel
theorem dL_law_861 : decode code 861 = .ok (.iaload, 1) := by decide +kernel
theorem dL_law_862 : decode code 862 = .ok (.aload_n 0, 1) := by decide +kernel
theorem dL_law_863 : decode code 863 = .ok (.iload_n 3, 1) := by decide +kernel
theorem dL_law_864 : decode code 864 = .ok (.iconst 2, 1) := by decide +kernel
theorem dL_law_865 : decode code 865 = .ok (.iadd, 1) := by decide +kernel
theorem dL_law_866 : decode code 866 = .ok (.iaload, 1) := by decide +kernel
theorem dL_law_867 : decode code 867 = .ok (.invokevirtual 123, 3) := by decide +kernel
theorem dL_law_870 : decode code 870 = .ok (.if_icmp .eq 176, 3) := by decide +kernel
theorem dL_law_873 : decode code 873 = .ok (.iconst 0, 1) := by decide +kernel
theorem dL_law_874 : decode code 874 = .ok (.ireturn, 1) := by decide +kernel
theorem dL_law_875 : decode code 875 = .ok (.aload_n 1, 1) := by decide +kernel
theorem dL_law_876 : decode code 876 = .ok (.aload_n 0, 1) := by decide +kernel
theorem dL_law_877 : decode code 877 = .ok (.iload_n 3, 1) := by decide +kernel
theorem dL_law_878 : decode code 878 = .ok (.iconst 1, 1) := by decide +kernel
theorem dL_law_879 : decode code 879 = .ok (.iadd, 1) := by decide +kernel
theorem dL_law_880 : decode code 880 = .ok (.iaload, 1) := by decide +kernel
theorem dL_law_881 : decode code 881 = .ok (.aload_n 0, 1) := by decide +kernel
theorem dL_law_882 : decode code 882 = .ok (.iload_n 3, 1) := by decide +kernel
theorem dL_law_883 : decode code 883 = .ok (.iconst 2, 1) := by decide +kernel
theorem dL_law_884 : decode code 884 = .ok (.iadd, 1) := by decide +kernel
theorem dL_law_885 : decode code 885 = .ok (.iaload, 1) := by decide +kernel
theorem dL_law_886 : decode code 886 = .ok (.invokevirtual 124, 3) := by decide +kernel
theorem dL_law_889 : decode code 889 = .ok (.aload_n 2, 1) := by decide +kernel
theorem dL_law_890 : decode code 890 = .ok (.aload_n 0, 1) := by decide +kernel
theorem dL_law_891 : decode code 891 = .ok (.iload_n 3, 1) := by decide +kernel
theorem dL_law_892 : decode code 892 = .ok (.iconst 1, 1) := by decide +kernel
theorem dL_law_893 : decode code 893 = .ok (.iadd, 1) := by decide +kernel
theorem dL_law_894 : decode code 894 = .ok (.iaload, 1) := by decide +kernel
theorem dL_law_895 : decode code 895 = .ok (.aload_n 0, 1) := by decide +kernel
theorem dL_law_896 : decode code 896 = .ok (.iload_n 3, 1) := by decide +kernel
theorem dL_law_897 : decode code 897 = .ok (.iconst 2, 1) := by decide +kernel
theorem dL_law_898 : decode code 898 = .ok (.iadd, 1) := by decide +kernel
theorem dL_law_899 : decode code 899 = .ok (.iaload, 1) := by decide +kernel
theorem dL_law_900 : decode code 900 = .ok (.invokevirtual 127, 3) := by decide +kernel
theorem dL_law_903 : decode code 903 = .ok (.if_icmp .eq 143, 3) := by decide +kernel
theorem dL_law_906 : decode code 906 = .ok (.iconst 0, 1) := by decide +kernel
theorem dL_law_907 : decode code 907 = .ok (.ireturn, 1) := by decide +kernel
theorem dL_law_908 : decode code 908 = .ok (.aload_n 1, 1) := by decide +kernel
theorem dL_law_909 : decode code 909 = .ok (.aload_n 0, 1) := by decide +kernel
theorem dL_law_910 : decode code 910 = .ok (.iload_n 3, 1) := by decide +kernel
theorem dL_law_911 : decode code 911 = .ok (.iconst 1, 1) := by decide +kernel
theorem dL_law_912 : decode code 912 = .ok (.iadd, 1) := by decide +kernel
theorem dL_law_913 : decode code 913 = .ok (.iaload, 1) := by decide +kernel
theorem dL_law_914 : decode code 914 = .ok (.aload_n 0, 1) := by decide +kernel
theorem dL_law_915 : decode code 915 = .ok (.iload_n 3, 1) := by decide +kernel
theorem dL_law_916 : decode code 916 = .ok (.iconst 2, 1) := by decide +kernel
theorem dL_law_917 : decode code 917 = .ok (.iadd, 1) := by decide +kernel
theorem dL_law_918 : decode code 918 = .ok (.iaload, 1) := by decide +kernel
theorem dL_law_919 : decode code 919 = .ok (.aload_n 0, 1) := by decide +kernel
theorem dL_law_920 : decode code 920 = .ok (.iload_n 3, 1) := by decide +kernel
theorem dL_law_921 : decode code 921 = .ok (.iconst 3, 1) := by decide +kernel
theorem dL_law_922 : decode code 922 = .ok (.iadd, 1) := by decide +kernel
theorem dL_law_923 : decode code 923 = .ok (.iaload, 1) := by decide +kernel
theorem dL_law_924 : decode code 924 = .ok (.aload_n 0, 1) := by decide +kernel
theorem dL_law_925 : decode code 925 = .ok (.iload_n 3, 1) := by decide +kernel
theorem dL_law_926 : decode code 926 = .ok (.iconst 4, 1) := by decide +kernel
theorem dL_law_927 : decode code 927 = .ok (.iadd, 1) := by decide +kernel
theorem dL_law_928 : decode code 928 = .ok (.iaload, 1) := by decide +kernel
theorem dL_law_929 : decode code 929 = .ok (.invokevirtual 128, 3) := by decide +kernel
theorem dL_law_932 : decode code 932 = .ok (.aload_n 2, 1) := by decide +kernel
theorem dL_law_933 : decode code 933 = .ok (.aload_n 0, 1) := by decide +kernel
theorem dL_law_934 : decode code 934 = .ok (.iload_n 3, 1) := by decide +kernel
theorem dL_law_935 : decode code 935 = .ok (.iconst 1, 1) := by decide +kernel
theorem dL_law_936 : decode code 936 = .ok (.iadd, 1) := by decide +kernel
theorem dL_law_937 : decode code 937 = .ok (.iaload, 1) := by decide +kernel
theorem dL_law_938 : decode code 938 = .ok (.aload_n 0, 1) := by decide +kernel
theorem dL_law_939 : decode code 939 = .ok (.iload_n 3, 1) := by decide +kernel
theorem dL_law_940 : decode code 940 = .ok (.iconst 2, 1) := by decide +kernel
theorem dL_law_941 : decode code 941 = .ok (.iadd, 1) := by decide +kernel
theorem dL_law_942 : decode code 942 = .ok (.iaload, 1) := by decide +kernel
theorem dL_law_943 : decode code 943 = .ok (.aload_n 0, 1) := by decide +kernel
theorem dL_law_944 : decode code 944 = .ok (.iload_n 3, 1) := by decide +kernel
theorem dL_law_945 : decode code 945 = .ok (.iconst 3, 1) := by decide +kernel
theorem dL_law_946 : decode code 946 = .ok (.iadd, 1) := by decide +kernel
theorem dL_law_947 : decode code 947 = .ok (.iaload, 1) := by decide +kernel
theorem dL_law_948 : decode code 948 = .ok (.aload_n 0, 1) := by decide +kernel
theorem dL_law_949 : decode code 949 = .ok (.iload_n 3, 1) := by decide +kernel
theorem dL_law_950 : decode code 950 = .ok (.iconst 4, 1) := by decide +kernel
theorem dL_law_951 : decode code 951 = .ok (.iadd, 1) := by decide +kernel
theorem dL_law_952 : decode code 952 = .ok (.iaload, 1) := by decide +kernel
theorem dL_law_953 : decode code 953 = .ok (.invokevirtual 132, 3) := by decide +kernel
theorem dL_law_956 : decode code 956 = .ok (.if_icmp .eq 90, 3) := by decide +kernel
theorem dL_law_959 : decode code 959 = .ok (.iconst 0, 1) := by decide +kernel
theorem dL_law_960 : decode code 960 = .ok (.ireturn, 1) := by decide +kernel
theorem dL_law_961 : decode code 961 = .ok (.aload_n 1, 1) := by decide +kernel
theorem dL_law_962 : decode code 962 = .ok (.aload_n 0, 1) := by decide +kernel
theorem dL_law_963 : decode code 963 = .ok (.iload_n 3, 1) := by decide +kernel
theorem dL_law_964 : decode code 964 = .ok (.iconst 1, 1) := by decide +kernel
theorem dL_law_965 : decode code 965 = .ok (.iadd, 1) := by decide +kernel
theorem dL_law_966 : decode code 966 = .ok (.iaload, 1) := by decide +kernel
theorem dL_law_967 : decode code 967 = .ok (.invokevirtual 133, 3) := by decide +kernel
theorem dL_law_970 : decode code 970 = .ok (.aload_n 2, 1) := by decide +kernel
theorem dL_law_971 : decode code 971 = .ok (.aload_n 0, 1) := by decide +kernel
theorem dL_law_972 : decode code 972 = .ok (.iload_n 3, 1) := by decide +kernel
theorem dL_law_973 : decode code 973 = .ok (.iconst 1, 1) := by decide +kernel
theorem dL_law_974 : decode code 974 = .ok (.iadd, 1) := by decide +kernel
theorem dL_law_975 : decode code 975 = .ok (.iaload, 1) := by decide +kernel
theorem dL_law_976 : decode code 976 = .ok (.invokevirtual 136, 3) := by decide +kernel
theorem dL_law_979 : decode code 979 = .ok (.if_icmp .eq 67, 3) := by decide +kernel
theorem dL_law_982 : decode code 982 = .ok (.iconst 0, 1) := by decide +kernel
theorem dL_law_983 : decode code 983 = .ok (.ireturn, 1) := by decide +kernel
theorem dL_law_984 : decode code 984 = .ok (.aload_n 1, 1) := by decide +kernel
theorem dL_law_985 : decode code 985 = .ok (.invokevirtual 137, 3) := by decide +kernel
theorem dL_law_988 : decode code 988 = .ok (.aload_n 2, 1) := by decide +kernel
theorem dL_law_989 : decode code 989 = .ok (.invokevirtual 140, 3) := by decide +kernel
theorem dL_law_992 : decode code 992 = .ok (.if_icmp .eq 54, 3) := by decide +kernel
theorem dL_law_995 : decode code 995 = .ok (.iconst 0, 1) := by decide +kernel
theorem dL_law_996 : decode code 996 = .ok (.ireturn, 1) := by decide +kernel
theorem dL_law_997 : decode code 997 = .ok (.aload_n 1, 1) := by decide +kernel
theorem dL_law_998 : decode code 998 = .ok (.invokevirtual 141, 3) := by decide +kernel
theorem dL_law_1001 : decode code 1001 = .ok (.aload_n 2, 1) := by decide +kernel
theorem dL_law_1002 : decode code 1002 = .ok (.invokevirtual 144, 3) := by decide +kernel
theorem dL_law_1005 : decode code 1005 = .ok (.if_icmp .eq 41, 3) := by decide +kernel
theorem dL_law_1008 : decode code 1008 = .ok (.iconst 0, 1) := by decide +kernel
theorem dL_law_1009 : decode code 1009 = .ok (.ireturn, 1) := by decide +kernel
theorem dL_law_1010 : decode code 1010 = .ok (.aload_n 1, 1) := by decide +kernel
theorem dL_law_1011 : decode code 1011 = .ok (.invokevirtual 145, 3) := by decide +kernel
theorem dL_law_1014 : decode code 1014 = .ok (.aload_n 2, 1) := by decide +kernel
theorem dL_law_1015 : decode code 1015 = .ok (.invokevirtual 148, 3) := by decide +kernel
theorem dL_law_1018 : decode code 1018 = .ok (.if_icmp .eq 28, 3) := by decide +kernel
theorem dL_law_1021 : decode code 1021 = .ok (.iconst 0, 1) := by decide +kernel
theorem dL_law_1022 : decode code 1022 = .ok (.ireturn, 1) := by decide +kernel
theorem dL_law_1023 : decode code 1023 = .ok (.aload_n 1, 1) := by decide +kernel
theorem dL_law_1024 : decode code 1024 = .ok (.aload_n 0, 1) := by decide +kernel
theorem dL_law_1025 : decode code 1025 = .ok (.iload_n 3, 1) := by decide +kernel
theorem dL_law_1026 : decode code 1026 = .ok (.iconst 1, 1) := by decide +kernel
theorem dL_law_1027 : decode code 1027 = .ok (.iadd, 1) := by decide +kernel
theorem dL_law_1028 : decode code 1028 = .ok (.iaload, 1) := by decide +kernel
theorem dL_law_1029 : decode code 1029 = .ok (.invokevirtual 149, 3) := by decide +kernel
theorem dL_law_1032 : decode code 1032 = .ok (.aload_n 2, 1) := by decide +kernel
theorem dL_law_1033 : decode code 1033 = .ok (.aload_n 0, 1) := by decide +kernel
theorem dL_law_1034 : decode code 1034 = .ok (.iload_n 3, 1) := by decide +kernel
theorem dL_law_1035 : decode code 1035 = .ok (.iconst 1, 1) := by decide +kernel
theorem dL_law_1036 : decode code 1036 = .ok (.iadd, 1) := by decide +kernel
theorem dL_law_1037 : decode code 1037 = .ok (.iaload, 1) := by decide +kernel
theorem dL_law_1038 : decode code 1038 = .ok (.invokevirtual 152, 3) := by decide +kernel
theorem dL_law_1041 : decode code 1041 = .ok (.if_icmp .eq 5, 3) := by decide +kernel
theorem dL_law_1044 : decode code 1044 = .ok (.iconst 0, 1) := by decide +kernel
theorem dL_law_1045 : decode code 1045 = .ok (.ireturn, 1) := by decide +kernel
theorem dL_law_1046 : decode code 1046 = .ok (.iinc 3 5, 3) := by decide +kernel
theorem dL_law_1049 : decode code 1049 = .ok (.goto (-1031), 3) := by decide +kernel
theorem dL_law_1052 : decode code 1052 = .ok (.iconst 1, 1) := by decide +kernel
theorem dL_law_1053 : decode code 1053 = .ok (.ireturn, 1) := by decide +kernel
