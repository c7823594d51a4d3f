/-! the machine does what the functions say, printed -/
theorem dL_law_0 : decode cL_law 0 = .ok (.new 8, 3) := by decide +kernel
theorem dL_law_3 : decode cL_law 3 = .ok (.dup, 1) := by decide +kernel
theorem dL_law_4 : decode cL_law 4 = .ok (.invokespecial 114, 3) := by decide +kernel
theorem dL_law_7 : decode cL_law 7 = .ok (.astore_n 1, 1) := by decide +kernel
theorem dL_law_8 : decode cL_law 8 = .ok (.new 115, 3) := by decide +kernel
theorem dL_law_11 : decode cL_law 11 = .ok (.dup, 1) := by decide +kernel
theorem dL_law_12 : decode cL_law 12 = .ok (.invokespecial 117, 3) := by decide +kernel
theorem dL_law_15 : decode cL_law 15 = .ok (.astore_n 2, 1) := by decide +kernel
theorem dL_law_16 : decode cL_law 16 = .ok (.iconst 1, 1) := by decide +kernel
theorem dL_law_17 : decode cL_law 17 = .ok (.newarray .long, 2) := by decide +kernel
theorem dL_law_19 : decode cL_law 19 = .ok (.astore_n 3, 1) := by decide +kernel
theorem dL_law_20 : decode cL_law 20 = .ok (.iconst 0, 1) := by decide +kernel
theorem dL_law_21 : decode cL_law 21 = .ok (.istore 4, 2) := by decide +kernel
theorem dL_law_23 : decode cL_law 23 = .ok (.iload 4, 2) := by decide +kernel
theorem dL_law_25 : decode cL_law 25 = .ok (.aload_n 0, 1) := by decide +kernel
theorem dL_law_26 : decode cL_law 26 = .ok (.arraylength, 1) := by decide +kernel
theorem dL_law_27 : decode cL_law 27 = .ok (.iconst 5, 1) := by decide +kernel
theorem dL_law_28 : decode cL_law 28 = .ok (.isub, 1) := by decide +kernel
theorem dL_law_29 : decode cL_law 29 = .ok (.if_icmp .gt 2218, 3) := by decide +kernel
theorem dL_law_32 : decode cL_law 32 = .ok (.aload_n 0, 1) := by decide +kernel
theorem dL_law_33 : decode cL_law 33 = .ok (.iload 4, 2) := by decide +kernel
theorem dL_law_35 : decode cL_law 35 = .ok (.iaload, 1) := by decide +kernel
theorem dL_law_36 : decode cL_law 36 = .ok (.bipush 31, 2) := by decide +kernel
theorem dL_law_38 : decode cL_law 38 = .ok (.iand, 1) := by decide +kernel
theorem dL_law_39 : decode cL_law 39 = .ok (.tableswitch 2202 0 31 #[141, 233, 289, 345, 401, 481, 568, 631, 699, 767, 835, 891, 947, 1022, 1078, 1169, 1225, 1293, 1349, 1362, 1375, 1431, 1487, 1555, 1623, 1703, 1811, 1879, 1959, 2022, 2078, 2134], 141) := by decide +kernel
theorem dL_law_180 : decode cL_law 180 = .ok (.aload_n 1, 1) := by decide +kernel
theorem dL_law_181 : decode cL_law 181 = .ok (.aload_n 0, 1) := by decide +kernel
theorem dL_law_182 : decode cL_law 182 = .ok (.iload 4, 2) := by decide +kernel
theorem dL_law_184 : decode cL_law 184 = .ok (.iconst 1, 1) := by decide +kernel
theorem dL_law_185 : decode cL_law 185 = .ok (.iadd, 1) := by decide +kernel
theorem dL_law_186 : decode cL_law 186 = .ok (.iaload, 1) := by decide +kernel
theorem dL_law_187 : decode cL_law 187 = .ok (.aload_n 0, 1) := by decide +kernel
theorem dL_law_188 : decode cL_law 188 = .ok (.iload 4, 2) := by decide +kernel
theorem dL_law_190 : decode cL_law 190 = .ok (.iconst 2, 1) := by decide +kernel
theorem dL_law_191 : decode cL_law 191 = .ok (.iadd, 1) := by decide +kernel
theorem dL_law_192 : decode cL_law 192 = .ok (.iaload, 1) := by decide +kernel
theorem dL_law_193 : decode cL_law 193 = .ok (.aload_n 0, 1) := by decide +kernel
theorem dL_law_194 : decode cL_law 194 = .ok (.iload 4, 2) := by decide +kernel
theorem dL_law_196 : decode cL_law 196 = .ok (.iconst 3, 1) := by decide +kernel
theorem dL_law_197 : decode cL_law 197 = .ok (.iadd, 1) := by decide +kernel
theorem dL_law_198 : decode cL_law 198 = .ok (.iaload, 1) := by decide +kernel
theorem dL_law_199 : decode cL_law 199 = .ok (.aload_n 0, 1) := by decide +kernel
theorem dL_law_200 : decode cL_law 200 = .ok (.iload 4, 2) := by decide +kernel
theorem dL_law_202 : decode cL_law 202 = .ok (.iconst 4, 1) := by decide +kernel
theorem dL_law_203 : decode cL_law 203 = .ok (.iadd, 1) := by decide +kernel
theorem dL_law_204 : decode cL_law 204 = .ok (.iaload, 1) := by decide +kernel
theorem dL_law_205 : decode cL_law 205 = .ok (.aload_n 3, 1) := by decide +kernel
theorem dL_law_206 : decode cL_law 206 = .ok (.invokestatic 118, 3) := by decide +kernel
theorem dL_law_209 : decode cL_law 209 = .ok (.istore 5, 2) := by decide +kernel
theorem dL_law_211 : decode cL_law 211 = .ok (.aload_n 2, 1) := by decide +kernel
theorem dL_law_212 : decode cL_law 212 = .ok (.aload_n 0, 1) := by decide +kernel
theorem dL_law_213 : decode cL_law 213 = .ok (.iload 4, 2) := by decide +kernel
theorem dL_law_215 : decode cL_law 215 = .ok (.iconst 1, 1) := by decide +kernel
theorem dL_law_216 : decode cL_law 216 = .ok (.iadd, 1) := by decide +kernel
theorem dL_law_217 : decode cL_law 217 = .ok (.iaload, 1) := by decide +kernel
theorem dL_law_218 : decode cL_law 218 = .ok (.aload_n 0, 1) := by decide +kernel
theorem dL_law_219 : decode cL_law 219 = .ok (.iload 4, 2) := by decide +kernel
theorem dL_law_221 : decode cL_law 221 = .ok (.iconst 2, 1) := by decide +kernel
theorem dL_law_222 : decode cL_law 222 = .ok (.iadd, 1) := by decide +kernel
theorem dL_law_223 : decode cL_law 223 = .ok (.iaload, 1) := by decide +kernel
theorem dL_law_224 : decode cL_law 224 = .ok (.aload_n 0, 1) := by decide +kernel
theorem dL_law_225 : decode cL_law 225 = .ok (.iload 4, 2) := by decide +kernel
theorem dL_law_227 : decode cL_law 227 = .ok (.iconst 3, 1) := by decide +kernel
theorem dL_law_228 : decode cL_law 228 = .ok (.iadd, 1) := by decide +kernel
theorem dL_law_229 : decode cL_law 229 = .ok (.iaload, 1) := by decide +kernel
theorem dL_law_230 : decode cL_law 230 = .ok (.aload_n 0, 1) := by decide +kernel
theorem dL_law_231 : decode cL_law 231 = .ok (.iload 4, 2) := by decide +kernel
theorem dL_law_233 : decode cL_law 233 = .ok (.iconst 4, 1) := by decide +kernel
theorem dL_law_234 : decode cL_law 234 = .ok (.iadd, 1) := by decide +kernel
theorem dL_law_235 : decode cL_law 235 = .ok (.iaload, 1) := by decide +kernel
theorem dL_law_236 : decode cL_law 236 = .ok (.invokevirtual 123, 3) := by decide +kernel
theorem dL_law_239 : decode cL_law 239 = .ok (.istore 6, 2) := by decide +kernel
theorem dL_law_241 : decode cL_law 241 = .ok (.aload_n 2, 1) := by decide +kernel
theorem dL_law_242 : decode cL_law 242 = .ok (.invokevirtual 124, 3) := by decide +kernel
theorem dL_law_245 : decode cL_law 245 = .ok (.iload 5, 2) := by decide +kernel
theorem dL_law_247 : decode cL_law 247 = .ok (.if_icmp .eq 5, 3) := by decide +kernel
theorem dL_law_250 : decode cL_law 250 = .ok (.iconst 0, 1) := by decide +kernel
theorem dL_law_251 : decode cL_law 251 = .ok (.ireturn, 1) := by decide +kernel
theorem dL_law_252 : decode cL_law 252 = .ok (.iload 5, 2) := by decide +kernel
theorem dL_law_254 : decode cL_law 254 = .ok (.ifCond .ne 15, 3) := by decide +kernel
theorem dL_law_257 : decode cL_law 257 = .ok (.aload_n 3, 1) := by decide +kernel
theorem dL_law_258 : decode cL_law 258 = .ok (.iconst 0, 1) := by decide +kernel
theorem dL_law_259 : decode cL_law 259 = .ok (.laload, 1) := by decide +kernel
theorem dL_law_260 : decode cL_law 260 = .ok (.iload 6, 2) := by decide +kernel
theorem dL_law_262 : decode cL_law 262 = .ok (.i2l, 1) := by decide +kernel
theorem dL_law_263 : decode cL_law 263 = .ok (.lcmp, 1) := by decide +kernel
theorem dL_law_264 : decode cL_law 264 = .ok (.ifCond .eq 5, 3) := by decide +kernel
theorem dL_law_267 : decode cL_law 267 = .ok (.iconst 0, 1) := by decide +kernel
theorem dL_law_268 : decode cL_law 268 = .ok (.ireturn, 1) := by decide +kernel
theorem dL_law_269 : decode cL_law 269 = .ok (.goto 1972, 3) := by decide +kernel
theorem dL_law_272 : decode cL_law 272 = .ok (.aload_n 1, 1) := by decide +kernel
theorem dL_law_273 : decode cL_law 273 = .ok (.aload_n 0, 1) := by decide +kernel
theorem dL_law_274 : decode cL_law 274 = .ok (.iload 4, 2) := by decide +kernel
theorem dL_law_276 : decode cL_law 276 = .ok (.iconst 1, 1) := by decide +kernel
theorem dL_law_277 : decode cL_law 277 = .ok (.iadd, 1) := by decide +kernel
theorem dL_law_278 : decode cL_law 278 = .ok (.iaload, 1) := by decide +kernel
theorem dL_law_279 : decode cL_law 279 = .ok (.aload_n 3, 1) := by decide +kernel
theorem dL_law_280 : decode cL_law 280 = .ok (.invokestatic 128, 3) := by decide +kernel
theorem dL_law_283 : decode cL_law 283 = .ok (.istore 5, 2) := by decide +kernel
theorem dL_law_285 : decode cL_law 285 = .ok (.aload_n 2, 1) := by decide +kernel
theorem dL_law_286 : decode cL_law 286 = .ok (.aload_n 0, 1) := by decide +kernel
theorem dL_law_287 : decode cL_law 287 = .ok (.iload 4, 2) := by decide +kernel
theorem dL_law_289 : decode cL_law 289 = .ok (.iconst 1, 1) := by decide +kernel
theorem dL_law_290 : decode cL_law 290 = .ok (.iadd, 1) := by decide +kernel
theorem dL_law_291 : decode cL_law 291 = .ok (.iaload, 1) := by decide +kernel
theorem dL_law_292 : decode cL_law 292 = .ok (.invokevirtual 131, 3) := by decide +kernel
theorem dL_law_295 : decode cL_law 295 = .ok (.istore 6, 2) := by decide +kernel
theorem dL_law_297 : decode cL_law 297 = .ok (.aload_n 2, 1) := by decide +kernel
theorem dL_law_298 : decode cL_law 298 = .ok (.invokevirtual 124, 3) := by decide +kernel
theorem dL_law_301 : decode cL_law 301 = .ok (.iload 5, 2) := by decide +kernel
theorem dL_law_303 : decode cL_law 303 = .ok (.if_icmp .eq 5, 3) := by decide +kernel
theorem dL_law_306 : decode cL_law 306 = .ok (.iconst 0, 1) := by decide +kernel
theorem dL_law_307 : decode cL_law 307 = .ok (.ireturn, 1) := by decide +kernel
theorem dL_law_308 : decode cL_law 308 = .ok (.iload 5, 2) := by decide +kernel
theorem dL_law_310 : decode cL_law 310 = .ok (.ifCond .ne 15, 3) := by decide +kernel
theorem dL_law_313 : decode cL_law 313 = .ok (.aload_n 3, 1) := by decide +kernel
theorem dL_law_314 : decode cL_law 314 = .ok (.iconst 0, 1) := by decide +kernel
theorem dL_law_315 : decode cL_law 315 = .ok (.laload, 1) := by decide +kernel
theorem dL_law_316 : decode cL_law 316 = .ok (.iload 6, 2) := by decide +kernel
theorem dL_law_318 : decode cL_law 318 = .ok (.i2l, 1) := by decide +kernel
theorem dL_law_319 : decode cL_law 319 = .ok (.lcmp, 1) := by decide +kernel
theorem dL_law_320 : decode cL_law 320 = .ok (.ifCond .eq 5, 3) := by decide +kernel
theorem dL_law_323 : decode cL_law 323 = .ok (.iconst 0, 1) := by decide +kernel
theorem dL_law_324 : decode cL_law 324 = .ok (.ireturn, 1) := by decide +kernel
theorem dL_law_325 : decode cL_law 325 = .ok (.goto 1916, 3) := by decide +kernel
theorem dL_law_328 : decode cL_law 328 = .ok (.aload_n 1, 1) := by decide +kernel
theorem dL_law_329 : decode cL_law 329 = .ok (.aload_n 0, 1) := by decide +kernel
theorem dL_law_330 : decode cL_law 330 = .ok (.iload 4, 2) := by decide +kernel
theorem dL_law_332 : decode cL_law 332 = .ok (.iconst 1, 1) := by decide +kernel
theorem dL_law_333 : decode cL_law 333 = .ok (.iadd, 1) := by decide +kernel
theorem dL_law_334 : decode cL_law 334 = .ok (.iaload, 1) := by decide +kernel
theorem dL_law_335 : decode cL_law 335 = .ok (.aload_n 3, 1) := by decide +kernel
theorem dL_law_336 : decode cL_law 336 = .ok (.invokestatic 132, 3) := by decide +kernel
theorem dL_law_339 : decode cL_law 339 = .ok (.istore 5, 2) := by decide +kernel
theorem dL_law_341 : decode cL_law 341 = .ok (.aload_n 2, 1) := by decide +kernel
theorem dL_law_342 : decode cL_law 342 = .ok (.aload_n 0, 1) := by decide +kernel
theorem dL_law_343 : decode cL_law 343 = .ok (.iload 4, 2) := by decide +kernel
theorem dL_law_345 : decode cL_law 345 = .ok (.iconst 1, 1) := by decide +kernel
theorem dL_law_346 : decode cL_law 346 = .ok (.iadd, 1) := by decide +kernel
theorem dL_law_347 : decode cL_law 347 = .ok (.iaload, 1) := by decide +kernel
theorem dL_law_348 : decode cL_law 348 = .ok (.invokevirtual 134, 3) := by decide +kernel
theorem dL_law_351 : decode cL_law 351 = .ok (.istore 6, 2) := by decide +kernel
theorem dL_law_353 : decode cL_law 353 = .ok (.aload_n 2, 1) := by decide +kernel
theorem dL_law_354 : decode cL_law 354 = .ok (.invokevirtual 124, 3) := by decide +kernel
theorem dL_law_357 : decode cL_law 357 = .ok (.iload 5, 2) := by decide +kernel
theorem dL_law_359 : decode cL_law 359 = .ok (.if_icmp .eq 5, 3) := by decide +kernel
theorem dL_law_362 : decode cL_law 362 = .ok (.iconst 0, 1) := by decide +kernel
theorem dL_law_363 : decode cL_law 363 = .ok (.ireturn, 1) := by decide +kernel
theorem dL_law_364 : decode cL_law 364 = .ok (.iload 5, 2) := by decide +kernel
theorem dL_law_366 : decode cL_law 366 = .ok (.ifCond .ne 15, 3) := by decide +kernel
theorem dL_law_369 : decode cL_law 369 = .ok (.aload_n 3, 1) := by decide +kernel
theorem dL_law_370 : decode cL_law 370 = .ok (.iconst 0, 1) := by decide +kernel
theorem dL_law_371 : decode cL_law 371 = .ok (.laload, 1) := by decide +kernel
theorem dL_law_372 : decode cL_law 372 = .ok (.iload 6, 2) := by decide +kernel
theorem dL_law_374 : decode cL_law 374 = .ok (.i2l, 1) := by decide +kernel
theorem dL_law_375 : decode cL_law 375 = .ok (.lcmp, 1) := by decide +kernel
theorem dL_law_376 : decode cL_law 376 = .ok (.ifCond .eq 5, 3) := by decide +kernel
theorem dL_law_379 : decode cL_law 379 = .ok (.iconst 0, 1) := by decide +kernel
theorem dL_law_380 : decode cL_law 380 = .ok (.ireturn, 1) := by decide +kernel
theorem dL_law_381 : decode cL_law 381 = .ok (.goto 1860, 3) := by decide +kernel
theorem dL_law_384 : decode cL_law 384 = .ok (.aload_n 1, 1) := by decide +kernel
theorem dL_law_385 : decode cL_law 385 = .ok (.aload_n 0, 1) := by decide +kernel
theorem dL_law_386 : decode cL_law 386 = .ok (.iload 4, 2) := by decide +kernel
theorem dL_law_388 : decode cL_law 388 = .ok (.iconst 1, 1) := by decide +kernel
theorem dL_law_389 : decode cL_law 389 = .ok (.iadd, 1) := by decide +kernel
theorem dL_law_390 : decode cL_law 390 = .ok (.iaload, 1) := by decide +kernel
theorem dL_law_391 : decode cL_law 391 = .ok (.aload_n 3, 1) := by decide +kernel
theorem dL_law_392 : decode cL_law 392 = .ok (.invokestatic 135, 3) := by decide +kernel
theorem dL_law_395 : decode cL_law 395 = .ok (.istore 5, 2) := by decide +kernel
theorem dL_law_397 : decode cL_law 397 = .ok (.aload_n 2, 1) := by decide +kernel
theorem dL_law_398 : decode cL_law 398 = .ok (.aload_n 0, 1) := by decide +kernel
theorem dL_law_399 : decode cL_law 399 = .ok (.iload 4, 2) := by decide +kernel
theorem dL_law_401 : decode cL_law 401 = .ok (.iconst 1, 1) := by decide +kernel
theorem dL_law_402 : decode cL_law 402 = .ok (.iadd, 1) := by decide +kernel
theorem dL_law_403 : decode cL_law 403 = .ok (.iaload, 1) := by decide +kernel
theorem dL_law_404 : decode cL_law 404 = .ok (.invokevirtual 137, 3) := by decide +kernel
theorem dL_law_407 : decode cL_law 407 = .ok (.istore 6, 2) := by decide +kernel
theorem dL_law_409 : decode cL_law 409 = .ok (.aload_n 2, 1) := by decide +kernel
theorem dL_law_410 : decode cL_law 410 = .ok (.invokevirtual 124, 3) := by decide +kernel
theorem dL_law_413 : decode cL_law 413 = .ok (.iload 5, 2) := by decide +kernel
theorem dL_law_415 : decode cL_law 415 = .ok (.if_icmp .eq 5, 3) := by decide +kernel
theorem dL_law_418 : decode cL_law 418 = .ok (.iconst 0, 1) := by decide +kernel
theorem dL_law_419 : decode cL_law 419 = .ok (.ireturn, 1) := by decide +kernel
theorem dL_law_420 : decode cL_law 420 = .ok (.iload 5, 2) := by decide +kernel
theorem dL_law_422 : decode cL_law 422 = .ok (.ifCond .ne 15, 3) := by decide +kernel
theorem dL_law_425 : decode cL_law 425 = .ok (.aload_n 3, 1) := by decide +kernel
theorem dL_law_426 : decode cL_law 426 = .ok (.iconst 0, 1) := by decide +kernel
theorem dL_law_427 : decode cL_law 427 = .ok (.laload, 1) := by decide +kernel
theorem dL_law_428 : decode cL_law 428 = .ok (.iload 6, 2) := by decide +kernel
theorem dL_law_430 : decode cL_law 430 = .ok (.i2l, 1) := by decide +kernel
theorem dL_law_431 : decode cL_law 431 = .ok (.lcmp, 1) := by decide +kernel
theorem dL_law_432 : decode cL_law 432 = .ok (.ifCond .eq 5, 3) := by decide +kernel
theorem dL_law_435 : decode cL_law 435 = .ok (.iconst 0, 1) := by decide +kernel
theorem dL_law_436 : decode cL_law 436 = .ok (.ireturn, 1) := by decide +kernel
theorem dL_law_437 : decode cL_law 437 = .ok (.goto 1804, 3) := by decide +kernel
theorem dL_law_440 : decode cL_law 440 = .ok (.aload_n 1, 1) := by decide +kernel
theorem dL_law_441 : decode cL_law 441 = .ok (.aload_n 0, 1) := by decide +kernel
theorem dL_law_442 : decode cL_law 442 = .ok (.iload 4, 2) := by decide +kernel
theorem dL_law_444 : decode cL_law 444 = .ok (.iconst 1, 1) := by decide +kernel
theorem dL_law_445 : decode cL_law 445 = .ok (.iadd, 1) := by decide +kernel
theorem dL_law_446 : decode cL_law 446 = .ok (.iaload, 1) := by decide +kernel
theorem dL_law_447 : decode cL_law 447 = .ok (.aload_n 0, 1) := by decide +kernel
theorem dL_law_448 : decode cL_law 448 = .ok (.iload 4, 2) := by decide +kernel
theorem dL_law_450 : decode cL_law 450 = .ok (.iconst 2, 1) := by decide +kernel
theorem dL_law_451 : decode cL_law 451 = .ok (.iadd, 1) := by decide +kernel
theorem dL_law_452 : decode cL_law 452 = .ok (.iaload, 1) := by decide +kernel
theorem dL_law_453 : decode cL_law 453 = .ok (.aload_n 0, 1) := by decide +kernel
theorem dL_law_454 : decode cL_law 454 = .ok (.iload 4, 2) := by decide +kernel
theorem dL_law_456 : decode cL_law 456 = .ok (.iconst 3, 1) := by decide +kernel
theorem dL_law_457 : decode cL_law 457 = .ok (.iadd, 1) := by decide +kernel
theorem dL_law_458 : decode cL_law 458 = .ok (.iaload, 1) := by decide +kernel
theorem dL_law_459 : decode cL_law 459 = .ok (.aload_n 3, 1) := by decide +kernel
theorem dL_law_460 : decode cL_law 460 = .ok (.invokestatic 138, 3) := by decide +kernel
theorem dL_law_463 : decode cL_law 463 = .ok (.istore 5, 2) := by decide +kernel
theorem dL_law_465 : decode cL_law 465 = .ok (.aload_n 2, 1) := by decide +kernel
theorem dL_law_466 : decode cL_law 466 = .ok (.aload_n 0, 1) := by decide +kernel
theorem dL_law_467 : decode cL_law 467 = .ok (.iload 4, 2) := by decide +kernel
theorem dL_law_469 : decode cL_law 469 = .ok (.iconst 1, 1) := by decide +kernel
theorem dL_law_470 : decode cL_law 470 = .ok (.iadd, 1) := by decide +kernel
theorem dL_law_471 : decode cL_law 471 = .ok (.iaload, 1) := by decide +kernel
theorem dL_law_472 : decode cL_law 472 = .ok (.aload_n 0, 1) := by decide +kernel
theorem dL_law_473 : decode cL_law 473 = .ok (.iload 4, 2) := by decide +kernel
theorem dL_law_475 : decode cL_law 475 = .ok (.iconst 2, 1) := by decide +kernel
theorem dL_law_476 : decode cL_law 476 = .ok (.iadd, 1) := by decide +kernel
theorem dL_law_477 : decode cL_law 477 = .ok (.iaload, 1) := by decide +kernel
theorem dL_law_478 : decode cL_law 478 = .ok (.aload_n 0, 1) := by decide +kernel
theorem dL_law_479 : decode cL_law 479 = .ok (.iload 4, 2) := by decide +kernel
theorem dL_law_481 : decode cL_law 481 = .ok (.iconst 3, 1) := by decide +kernel
theorem dL_law_482 : decode cL_law 482 = .ok (.iadd, 1) := by decide +kernel
theorem dL_law_483 : decode cL_law 483 = .ok (.iaload, 1) := by decide +kernel
theorem dL_law_484 : decode cL_law 484 = .ok (.invokevirtual 141, 3) := by decide +kernel
theorem dL_law_487 : decode cL_law 487 = .ok (.istore 6, 2) := by decide +kernel
theorem dL_law_489 : decode cL_law 489 = .ok (.aload_n 2, 1) := by decide +kernel
theorem dL_law_490 : decode cL_law 490 = .ok (.invokevirtual 124, 3) := by decide +kernel
theorem dL_law_493 : decode cL_law 493 = .ok (.iload 5, 2) := by decide +kernel
theorem dL_law_495 : decode cL_law 495 = .ok (.if_icmp .eq 5, 3) := by decide +kernel
theorem dL_law_498 : decode cL_law 498 = .ok (.iconst 0, 1) := by decide +kernel
theorem dL_law_499 : decode cL_law 499 = .ok (.ireturn, 1) := by decide +kernel
theorem dL_law_500 : decode cL_law 500 = .ok (.iload 5, 2) := by decide +kernel
theorem dL_law_502 : decode cL_law 502 = .ok (.ifCond .ne 15, 3) := by decide +kernel
theorem dL_law_505 : decode cL_law 505 = .ok (.aload_n 3, 1) := by decide +kernel
theorem dL_law_506 : decode cL_law 506 = .ok (.iconst 0, 1) := by decide +kernel
theorem dL_law_507 : decode cL_law 507 = .ok (.laload, 1) := by decide +kernel
theorem dL_law_508 : decode cL_law 508 = .ok (.iload 6, 2) := by decide +kernel
theorem dL_law_510 : decode cL_law 510 = .ok (.i2l, 1) := by decide +kernel
theorem dL_law_511 : decode cL_law 511 = .ok (.lcmp, 1) := by decide +kernel
theorem dL_law_512 : decode cL_law 512 = .ok (.ifCond .eq 5, 3) := by decide +kernel
theorem dL_law_515 : decode cL_law 515 = .ok (.iconst 0, 1) := by decide +kernel
theorem dL_law_516 : decode cL_law 516 = .ok (.ireturn, 1) := by decide +kernel
theorem dL_law_517 : decode cL_law 517 = .ok (.goto 1724, 3) := by decide +kernel
theorem dL_law_520 : decode cL_law 520 = .ok (.aload_n 1, 1) := by decide +kernel
theorem dL_law_521 : decode cL_law 521 = .ok (.aload_n 0, 1) := by decide +kernel
theorem dL_law_522 : decode cL_law 522 = .ok (.iload 4, 2) := by decide +kernel
theorem dL_law_524 : decode cL_law 524 = .ok (.iconst 1, 1) := by decide +kernel
theorem dL_law_525 : decode cL_law 525 = .ok (.iadd, 1) := by decide +kernel
theorem dL_law_526 : decode cL_law 526 = .ok (.iaload, 1) := by decide +kernel
theorem dL_law_527 : decode cL_law 527 = .ok (.aload_n 0, 1) := by decide +kernel
theorem dL_law_528 : decode cL_law 528 = .ok (.iload 4, 2) := by decide +kernel
theorem dL_law_530 : decode cL_law 530 = .ok (.iconst 2, 1) := by decide +kernel
theorem dL_law_531 : decode cL_law 531 = .ok (.iadd, 1) := by decide +kernel
theorem dL_law_532 : decode cL_law 532 = .ok (.iaload, 1) := by decide +kernel
theorem dL_law_533 : decode cL_law 533 = .ok (.aload_n 0, 1) := by decide +kernel
theorem dL_law_534 : decode cL_law 534 = .ok (.iload 4, 2) := by decide +kernel
theorem dL_law_536 : decode cL_law 536 = .ok (.iconst 3, 1) := by decide +kernel
theorem dL_law_537 : decode cL_law 537 = .ok (.iadd, 1) := by decide +kernel
theorem dL_law_538 : decode cL_law 538 = .ok (.iaload, 1) := by decide +kernel
theorem dL_law_539 : decode cL_law 539 = .ok (.aload_n 3, 1) := by decide +kernel
theorem dL_law_540 : decode cL_law 540 = .ok (.invokestatic 142, 3) := by decide +kernel
theorem dL_law_543 : decode cL_law 543 = .ok (.istore 5, 2) := by decide +kernel
theorem dL_law_545 : decode cL_law 545 = .ok (.aload_n 2, 1) := by decide +kernel
theorem dL_law_546 : decode cL_law 546 = .ok (.aload_n 0, 1) := by decide +kernel
theorem dL_law_547 : decode cL_law 547 = .ok (.iload 4, 2) := by decide +kernel
theorem dL_law_549 : decode cL_law 549 = .ok (.iconst 1, 1) := by decide +kernel
theorem dL_law_550 : decode cL_law 550 = .ok (.iadd, 1) := by decide +kernel
theorem dL_law_551 : decode cL_law 551 = .ok (.iaload, 1) := by decide +kernel
theorem dL_law_552 : decode cL_law 552 = .ok (.aload_n 0, 1) := by decide +kernel
theorem dL_law_553 : decode cL_law 553 = .ok (.iload 4, 2) := by decide +kernel
theorem dL_law_555 : decode cL_law 555 = .ok (.iconst 2, 1) := by decide +kernel
theorem dL_law_556 : decode cL_law 556 = .ok (.iadd, 1) := by decide +kernel
theorem dL_law_557 : decode cL_law 557 = .ok (.iaload, 1) := by decide +kernel
theorem dL_law_558 : decode cL_law 558 = .ok (.aload_n 0, 1) := by decide +kernel
theorem dL_law_559 : decode cL_law 559 = .ok (.iload 4, 2) := by decide +kernel
theorem dL_law_561 : decode cL_law 561 = .ok (.iconst 3, 1) := by decide +kernel
theorem dL_law_562 : decode cL_law 562 = .ok (.iadd, 1) := by decide +kernel
theorem dL_law_563 : decode cL_law 563 = .ok (.iaload, 1) := by decide +kernel
theorem dL_law_564 : decode cL_law 564 = .ok (.invokevirtual 144, 3) := by decide +kernel
theorem dL_law_567 : decode cL_law 567 = .ok (.istore 6, 2) := by decide +kernel
theorem dL_law_569 : decode cL_law 569 = .ok (.aload_n 2, 1) := by decide +kernel
theorem dL_law_570 : decode cL_law 570 = .ok (.invokevirtual 124, 3) := by decide +kernel
theorem dL_law_573 : decode cL_law 573 = .ok (.iload 5, 2) := by decide +kernel
theorem dL_law_575 : decode cL_law 575 = .ok (.if_icmp .eq 5, 3) := by decide +kernel
theorem dL_law_578 : decode cL_law 578 = .ok (.iconst 0, 1) := by decide +kernel
theorem dL_law_579 : decode cL_law 579 = .ok (.ireturn, 1) := by decide +kernel
theorem dL_law_580 : decode cL_law 580 = .ok (.iload 5, 2) := by decide +kernel
theorem dL_law_582 : decode cL_law 582 = .ok (.ifCond .ne 22, 3) := by decide +kernel
theorem dL_law_585 : decode cL_law 585 = .ok (.aload_n 3, 1) := by decide +kernel
theorem dL_law_586 : decode cL_law 586 = .ok (.iconst 0, 1) := by decide +kernel
theorem dL_law_587 : decode cL_law 587 = .ok (.laload, 1) := by decide +kernel
theorem dL_law_588 : decode cL_law 588 = .ok (.iload 6, 2) := by decide +kernel
theorem dL_law_590 : decode cL_law 590 = .ok (.ifCond .eq 7, 3) := by decide +kernel
theorem dL_law_593 : decode cL_law 593 = .ok (.lconst 1, 1) := by decide +kernel
theorem dL_law_594 : decode cL_law 594 = .ok (.goto 4, 3) := by decide +kernel
theorem dL_law_597 : decode cL_law 597 = .ok (.lconst 0, 1) := by decide +kernel
theorem dL_law_598 : decode cL_law 598 = .ok (.lcmp, 1) := by decide +kernel
theorem dL_law_599 : decode cL_law 599 = .ok (.ifCond .eq 5, 3) := by decide +kernel
theorem dL_law_602 : decode cL_law 602 = .ok (.iconst 0, 1) := by decide +kernel
theorem dL_law_603 : decode cL_law 603 = .ok (.ireturn, 1) := by decide +kernel
theorem dL_law_604 : decode cL_law 604 = .ok (.goto 1637, 3) := by decide +kernel
theorem dL_law_607 : decode cL_law 607 = .ok (.aload_n 1, 1) := by decide +kernel
theorem dL_law_608 : decode cL_law 608 = .ok (.aload_n 0, 1) := by decide +kernel
theorem dL_law_609 : decode cL_law 609 = .ok (.iload 4, 2) := by decide +kernel
theorem dL_law_611 : decode cL_law 611 = .ok (.iconst 1, 1) := by decide +kernel
theorem dL_law_612 : decode cL_law 612 = .ok (.iadd, 1) := by decide +kernel
theorem dL_law_613 : decode cL_law 613 = .ok (.iaload, 1) := by decide +kernel
theorem dL_law_614 : decode cL_law 614 = .ok (.aload_n 3, 1) := by decide +kernel
theorem dL_law_615 : decode cL_law 615 = .ok (.invokestatic 145, 3) := by decide +kernel
theorem dL_law_618 : decode cL_law 618 = .ok (.istore 5, 2) := by decide +kernel
theorem dL_law_620 : decode cL_law 620 = .ok (.aload_n 2, 1) := by decide +kernel
theorem dL_law_621 : decode cL_law 621 = .ok (.aload_n 0, 1) := by decide +kernel
theorem dL_law_622 : decode cL_law 622 = .ok (.iload 4, 2) := by decide +kernel
theorem dL_law_624 : decode cL_law 624 = .ok (.iconst 1, 1) := by decide +kernel
theorem dL_law_625 : decode cL_law 625 = .ok (.iadd, 1) := by decide +kernel
theorem dL_law_626 : decode cL_law 626 = .ok (.iaload, 1) := by decide +kernel
theorem dL_law_627 : decode cL_law 627 = .ok (.invokevirtual 147, 3) := by decide +kernel
theorem dL_law_630 : decode cL_law 630 = .ok (.istore 6, 2) := by decide +kernel
theorem dL_law_632 : decode cL_law 632 = .ok (.aload_n 2, 1) := by decide +kernel
theorem dL_law_633 : decode cL_law 633 = .ok (.invokevirtual 124, 3) := by decide +kernel
theorem dL_law_636 : decode cL_law 636 = .ok (.iload 5, 2) := by decide +kernel
theorem dL_law_638 : decode cL_law 638 = .ok (.if_icmp .eq 5, 3) := by decide +kernel
theorem dL_law_641 : decode cL_law 641 = .ok (.iconst 0, 1) := by decide +kernel
theorem dL_law_642 : decode cL_law 642 = .ok (.ireturn, 1) := by decide +kernel
theorem dL_law_643 : decode cL_law 643 = .ok (.iload 5, 2) := by decide +kernel
theorem dL_law_645 : decode cL_law 645 = .ok (.ifCond .ne 22, 3) := by decide +kernel
theorem dL_law_648 : decode cL_law 648 = .ok (.aload_n 3, 1) := by decide +kernel
theorem dL_law_649 : decode cL_law 649 = .ok (.iconst 0, 1) := by decide +kernel
theorem dL_law_650 : decode cL_law 650 = .ok (.laload, 1) := by decide +kernel
theorem dL_law_651 : decode cL_law 651 = .ok (.iload 6, 2) := by decide +kernel
theorem dL_law_653 : decode cL_law 653 = .ok (.ifCond .eq 7, 3) := by decide +kernel
theorem dL_law_656 : decode cL_law 656 = .ok (.lconst 1, 1) := by decide +kernel
theorem dL_law_657 : decode cL_law 657 = .ok (.goto 4, 3) := by decide +kernel
theorem dL_law_660 : decode cL_law 660 = .ok (.lconst 0, 1) := by decide +kernel
theorem dL_law_661 : decode cL_law 661 = .ok (.lcmp, 1) := by decide +kernel
theorem dL_law_662 : decode cL_law 662 = .ok (.ifCond .eq 5, 3) := by decide +kernel
theorem dL_law_665 : decode cL_law 665 = .ok (.iconst 0, 1) := by decide +kernel
theorem dL_law_666 : decode cL_law 666 = .ok (.ireturn, 1) := by decide +kernel
theorem dL_law_667 : decode cL_law 667 = .ok (.goto 1574, 3) := by decide +kernel
theorem dL_law_670 : decode cL_law 670 = .ok (.aload_n 1, 1) := by decide +kernel
theorem dL_law_671 : decode cL_law 671 = .ok (.aload_n 0, 1) := by decide +kernel
theorem dL_law_672 : decode cL_law 672 = .ok (.iload 4, 2) := by decide +kernel
theorem dL_law_674 : decode cL_law 674 = .ok (.iconst 1, 1) := by decide +kernel
theorem dL_law_675 : decode cL_law 675 = .ok (.iadd, 1) := by decide +kernel
theorem dL_law_676 : decode cL_law 676 = .ok (.iaload, 1) := by decide +kernel
theorem dL_law_677 : decode cL_law 677 = .ok (.aload_n 0, 1) := by decide +kernel
theorem dL_law_678 : decode cL_law 678 = .ok (.iload 4, 2) := by decide +kernel
theorem dL_law_680 : decode cL_law 680 = .ok (.iconst 2, 1) := by decide +kernel
theorem dL_law_681 : decode cL_law 681 = .ok (.iadd, 1) := by decide +kernel
theorem dL_law_682 : decode cL_law 682 = .ok (.iaload, 1) := by decide +kernel
theorem dL_law_683 : decode cL_law 683 = .ok (.aload_n 3, 1) := by decide +kernel
theorem dL_law_684 : decode cL_law 684 = .ok (.invokestatic 148, 3) := by decide +kernel
theorem dL_law_687 : decode cL_law 687 = .ok (.istore 5, 2) := by decide +kernel
theorem dL_law_689 : decode cL_law 689 = .ok (.aload_n 2, 1) := by decide +kernel
theorem dL_law_690 : decode cL_law 690 = .ok (.aload_n 0, 1) := by decide +kernel
theorem dL_law_691 : decode cL_law 691 = .ok (.iload 4, 2) := by decide +kernel
theorem dL_law_693 : decode cL_law 693 = .ok (.iconst 1, 1) := by decide +kernel
theorem dL_law_694 : decode cL_law 694 = .ok (.iadd, 1) := by decide +kernel
theorem dL_law_695 : decode cL_law 695 = .ok (.iaload, 1) := by decide +kernel
theorem dL_law_696 : decode cL_law 696 = .ok (.aload_n 0, 1) := by decide +kernel
theorem dL_law_697 : decode cL_law 697 = .ok (.iload 4, 2) := by decide +kernel
theorem dL_law_699 : decode cL_law 699 = .ok (.iconst 2, 1) := by decide +kernel
theorem dL_law_700 : decode cL_law 700 = .ok (.iadd, 1) := by decide +kernel
theorem dL_law_701 : decode cL_law 701 = .ok (.iaload, 1) := by decide +kernel
theorem dL_law_702 : decode cL_law 702 = .ok (.invokevirtual 151, 3) := by decide +kernel
theorem dL_law_705 : decode cL_law 705 = .ok (.istore 6, 2) := by decide +kernel
theorem dL_law_707 : decode cL_law 707 = .ok (.aload_n 2, 1) := by decide +kernel
theorem dL_law_708 : decode cL_law 708 = .ok (.invokevirtual 124, 3) := by decide +kernel
theorem dL_law_711 : decode cL_law 711 = .ok (.iload 5, 2) := by decide +kernel
theorem dL_law_713 : decode cL_law 713 = .ok (.if_icmp .eq 5, 3) := by decide +kernel
theorem dL_law_716 : decode cL_law 716 = .ok (.iconst 0, 1) := by decide +kernel
theorem dL_law_717 : decode cL_law 717 = .ok (.ireturn, 1) := by decide +kernel
theorem dL_law_718 : decode cL_law 718 = .ok (.iload 5, 2) := by decide +kernel
theorem dL_law_720 : decode cL_law 720 = .ok (.ifCond .ne 15, 3) := by decide +kernel
theorem dL_law_723 : decode cL_law 723 = .ok (.aload_n 3, 1) := by decide +kernel
theorem dL_law_724 : decode cL_law 724 = .ok (.iconst 0, 1) := by decide +kernel
theorem dL_law_725 : decode cL_law 725 = .ok (.laload, 1) := by decide +kernel
theorem dL_law_726 : decode cL_law 726 = .ok (.iload 6, 2) := by decide +kernel
theorem dL_law_728 : decode cL_law 728 = .ok (.i2l, 1) := by decide +kernel
theorem dL_law_729 : decode cL_law 729 = .ok (.lcmp, 1) := by decide +kernel
theorem dL_law_730 : decode cL_law 730 = .ok (.ifCond .eq 5, 3) := by decide +kernel
theorem dL_law_733 : decode cL_law 733 = .ok (.iconst 0, 1) := by decide +kernel
theorem dL_law_734 : decode cL_law 734 = .ok (.ireturn, 1) := by decide +kernel
theorem dL_law_735 : decode cL_law 735 = .ok (.goto 1506, 3) := by decide +kernel
theorem dL_law_738 : decode cL_law 738 = .ok (.aload_n 1, 1) := by decide +kernel
theorem dL_law_739 : decode cL_law 739 = .ok (.aload_n 0, 1) := by decide +kernel
theorem dL_law_740 : decode cL_law 740 = .ok (.iload 4, 2) := by decide +kernel
theorem dL_law_742 : decode cL_law 742 = .ok (.iconst 1, 1) := by decide +kernel
theorem dL_law_743 : decode cL_law 743 = .ok (.iadd, 1) := by decide +kernel
theorem dL_law_744 : decode cL_law 744 = .ok (.iaload, 1) := by decide +kernel
theorem dL_law_745 : decode cL_law 745 = .ok (.aload_n 0, 1) := by decide +kernel
theorem dL_law_746 : decode cL_law 746 = .ok (.iload 4, 2) := by decide +kernel
theorem dL_law_748 : decode cL_law 748 = .ok (.iconst 2, 1) := by decide +kernel
theorem dL_law_749 : decode cL_law 749 = .ok (.iadd, 1) := by decide +kernel
theorem dL_law_750 : decode cL_law 750 = .ok (.iaload, 1) := by decide +kernel
theorem dL_law_751 : decode cL_law 751 = .ok (.aload_n 3, 1) := by decide +kernel
theorem dL_law_752 : decode cL_law 752 = .ok (.invokestatic 152, 3) := by decide +kernel
theorem dL_law_755 : decode cL_law 755 = .ok (.istore 5, 2) := by decide +kernel
theorem dL_law_757 : decode cL_law 757 = .ok (.aload_n 2, 1) := by decide +kernel
theorem dL_law_758 : decode cL_law 758 = .ok (.aload_n 0, 1) := by decide +kernel
theorem dL_law_759 : decode cL_law 759 = .ok (.iload 4, 2) := by decide +kernel
theorem dL_law_761 : decode cL_law 761 = .ok (.iconst 1, 1) := by decide +kernel
theorem dL_law_762 : decode cL_law 762 = .ok (.iadd, 1) := by decide +kernel
theorem dL_law_763 : decode cL_law 763 = .ok (.iaload, 1) := by decide +kernel
theorem dL_law_764 : decode cL_law 764 = .ok (.aload_n 0, 1) := by decide +kernel
theorem dL_law_765 : decode cL_law 765 = .ok (.iload 4, 2) := by decide +kernel
theorem dL_law_767 : decode cL_law 767 = .ok (.iconst 2, 1) := by decide +kernel
theorem dL_law_768 : decode cL_law 768 = .ok (.iadd, 1) := by decide +kernel
theorem dL_law_769 : decode cL_law 769 = .ok (.iaload, 1) := by decide +kernel
theorem dL_law_770 : decode cL_law 770 = .ok (.invokevirtual 154, 3) := by decide +kernel
theorem dL_law_773 : decode cL_law 773 = .ok (.istore 6, 2) := by decide +kernel
theorem dL_law_775 : decode cL_law 775 = .ok (.aload_n 2, 1) := by decide +kernel
theorem dL_law_776 : decode cL_law 776 = .ok (.invokevirtual 124, 3) := by decide +kernel
theorem dL_law_779 : decode cL_law 779 = .ok (.iload 5, 2) := by decide +kernel
theorem dL_law_781 : decode cL_law 781 = .ok (.if_icmp .eq 5, 3) := by decide +kernel
theorem dL_law_784 : decode cL_law 784 = .ok (.iconst 0, 1) := by decide +kernel
theorem dL_law_785 : decode cL_law 785 = .ok (.ireturn, 1) := by decide +kernel
theorem dL_law_786 : decode cL_law 786 = .ok (.iload 5, 2) := by decide +kernel
theorem dL_law_788 : decode cL_law 788 = .ok (.ifCond .ne 15, 3) := by decide +kernel
theorem dL_law_791 : decode cL_law 791 = .ok (.aload_n 3, 1) := by decide +kernel
theorem dL_law_792 : decode cL_law 792 = .ok (.iconst 0, 1) := by decide +kernel
theorem dL_law_793 : decode cL_law 793 = .ok (.laload, 1) := by decide +kernel
theorem dL_law_794 : decode cL_law 794 = .ok (.iload 6, 2) := by decide +kernel
theorem dL_law_796 : decode cL_law 796 = .ok (.i2l, 1) := by decide +kernel
theorem dL_law_797 : decode cL_law 797 = .ok (.lcmp, 1) := by decide +kernel
theorem dL_law_798 : decode cL_law 798 = .ok (.ifCond .eq 5, 3) := by decide +kernel
theorem dL_law_801 : decode cL_law 801 = .ok (.iconst 0, 1) := by decide +kernel
theorem dL_law_802 : decode cL_law 802 = .ok (.ireturn, 1) := by decide +kernel
theorem dL_law_803 : decode cL_law 803 = .ok (.goto 1438, 3) := by decide +kernel
theorem dL_law_806 : decode cL_law 806 = .ok (.aload_n 1, 1) := by decide +kernel
theorem dL_law_807 : decode cL_law 807 = .ok (.aload_n 0, 1) := by decide +kernel
theorem dL_law_808 : decode cL_law 808 = .ok (.iload 4, 2) := by decide +kernel
theorem dL_law_810 : decode cL_law 810 = .ok (.iconst 1, 1) := by decide +kernel
theorem dL_law_811 : decode cL_law 811 = .ok (.iadd, 1) := by decide +kernel
theorem dL_law_812 : decode cL_law 812 = .ok (.iaload, 1) := by decide +kernel
theorem dL_law_813 : decode cL_law 813 = .ok (.aload_n 0, 1) := by decide +kernel
theorem dL_law_814 : decode cL_law 814 = .ok (.iload 4, 2) := by decide +kernel
theorem dL_law_816 : decode cL_law 816 = .ok (.iconst 2, 1) := by decide +kernel
theorem dL_law_817 : decode cL_law 817 = .ok (.iadd, 1) := by decide +kernel
theorem dL_law_818 : decode cL_law 818 = .ok (.iaload, 1) := by decide +kernel
theorem dL_law_819 : decode cL_law 819 = .ok (.aload_n 3, 1) := by decide +kernel
theorem dL_law_820 : decode cL_law 820 = .ok (.invokestatic 155, 3) := by decide +kernel
theorem dL_law_823 : decode cL_law 823 = .ok (.istore 5, 2) := by decide +kernel
theorem dL_law_825 : decode cL_law 825 = .ok (.aload_n 2, 1) := by decide +kernel
theorem dL_law_826 : decode cL_law 826 = .ok (.aload_n 0, 1) := by decide +kernel
theorem dL_law_827 : decode cL_law 827 = .ok (.iload 4, 2) := by decide +kernel
theorem dL_law_829 : decode cL_law 829 = .ok (.iconst 1, 1) := by decide +kernel
theorem dL_law_830 : decode cL_law 830 = .ok (.iadd, 1) := by decide +kernel
theorem dL_law_831 : decode cL_law 831 = .ok (.iaload, 1) := by decide +kernel
theorem dL_law_832 : decode cL_law 832 = .ok (.aload_n 0, 1) := by decide +kernel
theorem dL_law_833 : decode cL_law 833 = .ok (.iload 4, 2) := by decide +kernel
theorem dL_law_835 : decode cL_law 835 = .ok (.iconst 2, 1) := by decide +kernel
theorem dL_law_836 : decode cL_law 836 = .ok (.iadd, 1) := by decide +kernel
theorem dL_law_837 : decode cL_law 837 = .ok (.iaload, 1) := by decide +kernel
theorem dL_law_838 : decode cL_law 838 = .ok (.invokevirtual 157, 3) := by decide +kernel
theorem dL_law_841 : decode cL_law 841 = .ok (.istore 6, 2) := by decide +kernel
theorem dL_law_843 : decode cL_law 843 = .ok (.aload_n 2, 1) := by decide +kernel
theorem dL_law_844 : decode cL_law 844 = .ok (.invokevirtual 124, 3) := by decide +kernel
theorem dL_law_847 : decode cL_law 847 = .ok (.iload 5, 2) := by decide +kernel
theorem dL_law_849 : decode cL_law 849 = .ok (.if_icmp .eq 5, 3) := by decide +kernel
theorem dL_law_852 : decode cL_law 852 = .ok (.iconst 0, 1) := by decide +kernel
theorem dL_law_853 : decode cL_law 853 = .ok (.ireturn, 1) := by decide +kernel
theorem dL_law_854 : decode cL_law 854 = .ok (.iload 5, 2) := by decide +kernel
theorem dL_law_856 : decode cL_law 856 = .ok (.ifCond .ne 15, 3) := by decide +kernel
theorem dL_law_859 : decode cL_law 859 = .ok (.aload_n 3, 1) := by decide +kernel
theorem dL_law_860 : decode cL_law 860 = .ok (.iconst 0, 1) := by decide +kernel
theorem dL_law_861 : decode cL_law 861 = .ok (.laload, 1) := by decide +kernel
theorem dL_law_862 : decode cL_law 862 = .ok (.iload 6, 2) := by decide +kernel
theorem dL_law_864 : decode cL_law 864 = .ok (.i2l, 1) := by decide +kernel
theorem dL_law_865 : decode cL_law 865 = .ok (.lcmp, 1) := by decide +kernel
theorem dL_law_866 : decode cL_law 866 = .ok (.ifCond .eq 5, 3) := by decide +kernel
theorem dL_law_869 : decode cL_law 869 = .ok (.iconst 0, 1) := by decide +kernel
theorem dL_law_870 : decode cL_law 870 = .ok (.ireturn, 1) := by decide +kernel
theorem dL_law_871 : decode cL_law 871 = .ok (.goto 1370, 3) := by decide +kernel
theorem dL_law_874 : decode cL_law 874 = .ok (.aload_n 1, 1) := by decide +kernel
theorem dL_law_875 : decode cL_law 875 = .ok (.aload_n 0, 1) := by decide +kernel
theorem dL_law_876 : decode cL_law 876 = .ok (.iload 4, 2) := by decide +kernel
theorem dL_law_878 : decode cL_law 878 = .ok (.iconst 1, 1) := by decide +kernel
theorem dL_law_879 : decode cL_law 879 = .ok (.iadd, 1) := by decide +kernel
theorem dL_law_880 : decode cL_law 880 = .ok (.iaload, 1) := by decide +kernel
theorem dL_law_881 : decode cL_law 881 = .ok (.aload_n 3, 1) := by decide +kernel
theorem dL_law_882 : decode cL_law 882 = .ok (.invokestatic 158, 3) := by decide +kernel
theorem dL_law_885 : decode cL_law 885 = .ok (.istore 5, 2) := by decide +kernel
theorem dL_law_887 : decode cL_law 887 = .ok (.aload_n 2, 1) := by decide +kernel
theorem dL_law_888 : decode cL_law 888 = .ok (.aload_n 0, 1) := by decide +kernel
theorem dL_law_889 : decode cL_law 889 = .ok (.iload 4, 2) := by decide +kernel
theorem dL_law_891 : decode cL_law 891 = .ok (.iconst 1, 1) := by decide +kernel
theorem dL_law_892 : decode cL_law 892 = .ok (.iadd, 1) := by decide +kernel
theorem dL_law_893 : decode cL_law 893 = .ok (.iaload, 1) := by decide +kernel
theorem dL_law_894 : decode cL_law 894 = .ok (.invokevirtual 160, 3) := by decide +kernel
theorem dL_law_897 : decode cL_law 897 = .ok (.istore 6, 2) := by decide +kernel
theorem dL_law_899 : decode cL_law 899 = .ok (.aload_n 2, 1) := by decide +kernel
theorem dL_law_900 : decode cL_law 900 = .ok (.invokevirtual 124, 3) := by decide +kernel
theorem dL_law_903 : decode cL_law 903 = .ok (.iload 5, 2) := by decide +kernel
theorem dL_law_905 : decode cL_law 905 = .ok (.if_icmp .eq 5, 3) := by decide +kernel
theorem dL_law_908 : decode cL_law 908 = .ok (.iconst 0, 1) := by decide +kernel
theorem dL_law_909 : decode cL_law 909 = .ok (.ireturn, 1) := by decide +kernel
theorem dL_law_910 : decode cL_law 910 = .ok (.iload 5, 2) := by decide +kernel
theorem dL_law_912 : decode cL_law 912 = .ok (.ifCond .ne 15, 3) := by decide +kernel
theorem dL_law_915 : decode cL_law 915 = .ok (.aload_n 3, 1) := by decide +kernel
theorem dL_law_916 : decode cL_law 916 = .ok (.iconst 0, 1) := by decide +kernel
theorem dL_law_917 : decode cL_law 917 = .ok (.laload, 1) := by decide +kernel
theorem dL_law_918 : decode cL_law 918 = .ok (.iload 6, 2) := by decide +kernel
theorem dL_law_920 : decode cL_law 920 = .ok (.i2l, 1) := by decide +kernel
theorem dL_law_921 : decode cL_law 921 = .ok (.lcmp, 1) := by decide +kernel
theorem dL_law_922 : decode cL_law 922 = .ok (.ifCond .eq 5, 3) := by decide +kernel
theorem dL_law_925 : decode cL_law 925 = .ok (.iconst 0, 1) := by decide +kernel
theorem dL_law_926 : decode cL_law 926 = .ok (.ireturn, 1) := by decide +kernel
theorem dL_law_927 : decode cL_law 927 = .ok (.goto 1314, 3) := by decide +kernel
theorem dL_law_930 : decode cL_law 930 = .ok (.aload_n 1, 1) := by decide +kernel
theorem dL_law_931 : decode cL_law 931 = .ok (.aload_n 0, 1) := by decide +kernel
theorem dL_law_932 : decode cL_law 932 = .ok (.iload 4, 2) := by decide +kernel
theorem dL_law_934 : decode cL_law 934 = .ok (.iconst 1, 1) := by decide +kernel
theorem dL_law_935 : decode cL_law 935 = .ok (.iadd, 1) := by decide +kernel
theorem dL_law_936 : decode cL_law 936 = .ok (.iaload, 1) := by decide +kernel
theorem dL_law_937 : decode cL_law 937 = .ok (.aload_n 3, 1) := by decide +kernel
theorem dL_law_938 : decode cL_law 938 = .ok (.invokestatic 161, 3) := by decide +kernel
theorem dL_law_941 : decode cL_law 941 = .ok (.istore 5, 2) := by decide +kernel
theorem dL_law_943 : decode cL_law 943 = .ok (.aload_n 2, 1) := by decide +kernel
theorem dL_law_944 : decode cL_law 944 = .ok (.aload_n 0, 1) := by decide +kernel
theorem dL_law_945 : decode cL_law 945 = .ok (.iload 4, 2) := by decide +kernel
theorem dL_law_947 : decode cL_law 947 = .ok (.iconst 1, 1) := by decide +kernel
theorem dL_law_948 : decode cL_law 948 = .ok (.iadd, 1) := by decide +kernel
theorem dL_law_949 : decode cL_law 949 = .ok (.iaload, 1) := by decide +kernel
theorem dL_law_950 : decode cL_law 950 = .ok (.invokevirtual 163, 3) := by decide +kernel
theorem dL_law_953 : decode cL_law 953 = .ok (.istore 6, 2) := by decide +kernel
theorem dL_law_955 : decode cL_law 955 = .ok (.aload_n 2, 1) := by decide +kernel
theorem dL_law_956 : decode cL_law 956 = .ok (.invokevirtual 124, 3) := by decide +kernel
theorem dL_law_959 : decode cL_law 959 = .ok (.iload 5, 2) := by decide +kernel
theorem dL_law_961 : decode cL_law 961 = .ok (.if_icmp .eq 5, 3) := by decide +kernel
theorem dL_law_964 : decode cL_law 964 = .ok (.iconst 0, 1) := by decide +kernel
theorem dL_law_965 : decode cL_law 965 = .ok (.ireturn, 1) := by decide +kernel
theorem dL_law_966 : decode cL_law 966 = .ok (.iload 5, 2) := by decide +kernel
theorem dL_law_968 : decode cL_law 968 = .ok (.ifCond .ne 15, 3) := by decide +kernel
theorem dL_law_971 : decode cL_law 971 = .ok (.aload_n 3, 1) := by decide +kernel
theorem dL_law_972 : decode cL_law 972 = .ok (.iconst 0, 1) := by decide +kernel
theorem dL_law_973 : decode cL_law 973 = .ok (.laload, 1) := by decide +kernel
theorem dL_law_974 : decode cL_law 974 = .ok (.iload 6, 2) := by decide +kernel
theorem dL_law_976 : decode cL_law 976 = .ok (.i2l, 1) := by decide +kernel
theorem dL_law_977 : decode cL_law 977 = .ok (.lcmp, 1) := by decide +kernel
theorem dL_law_978 : decode cL_law 978 = .ok (.ifCond .eq 5, 3) := by decide +kernel
theorem dL_law_981 : decode cL_law 981 = .ok (.iconst 0, 1) := by decide +kernel
theorem dL_law_982 : decode cL_law 982 = .ok (.ireturn, 1) := by decide +kernel
theorem dL_law_983 : decode cL_law 983 = .ok (.goto 1258, 3) := by decide +kernel
theorem dL_law_986 : decode cL_law 986 = .ok (.aload_n 1, 1) := by decide +kernel
theorem dL_law_987 : decode cL_law 987 = .ok (.aload_n 0, 1) := by decide +kernel
theorem dL_law_988 : decode cL_law 988 = .ok (.iload 4, 2) := by decide +kernel
theorem dL_law_990 : decode cL_law 990 = .ok (.iconst 1, 1) := by decide +kernel
theorem dL_law_991 : decode cL_law 991 = .ok (.iadd, 1) := by decide +kernel
theorem dL_law_992 : decode cL_law 992 = .ok (.iaload, 1) := by decide +kernel
theorem dL_law_993 : decode cL_law 993 = .ok (.aload_n 0, 1) := by decide +kernel
theorem dL_law_994 : decode cL_law 994 = .ok (.iload 4, 2) := by decide +kernel
theorem dL_law_996 : decode cL_law 996 = .ok (.iconst 2, 1) := by decide +kernel
theorem dL_law_997 : decode cL_law 997 = .ok (.iadd, 1) := by decide +kernel
theorem dL_law_998 : decode cL_law 998 = .ok (.iaload, 1) := by decide +kernel
theorem dL_law_999 : decode cL_law 999 = .ok (.aload_n 3, 1) := by decide +kernel
theorem dL_law_1000 : decode cL_law 1000 = .ok (.invokestatic 164, 3) := by decide +kernel
theorem dL_law_1003 : decode cL_law 1003 = .ok (.istore 5, 2) := by decide +kernel
theorem dL_law_1005 : decode cL_law 1005 = .ok (.aload_n 2, 1) := by decide +kernel
theorem dL_law_1006 : decode cL_law 1006 = .ok (.aload_n 0, 1) := by decide +kernel
theorem dL_law_1007 : decode cL_law 1007 = .ok (.iload 4, 2) := by decide +kernel
theorem dL_law_1009 : decode cL_law 1009 = .ok (.iconst 1, 1) := by decide +kernel
theorem dL_law_1010 : decode cL_law 1010 = .ok (.iadd, 1) := by decide +kernel
theorem dL_law_1011 : decode cL_law 1011 = .ok (.iaload, 1) := by decide +kernel
theorem dL_law_1012 : decode cL_law 1012 = .ok (.aload_n 0, 1) := by decide +kernel
theorem dL_law_1013 : decode cL_law 1013 = .ok (.iload 4, 2) := by decide +kernel
theorem dL_law_1015 : decode cL_law 1015 = .ok (.iconst 2, 1) := by decide +kernel
theorem dL_law_1016 : decode cL_law 1016 = .ok (.iadd, 1) := by decide +kernel
theorem dL_law_1017 : decode cL_law 1017 = .ok (.iaload, 1) := by decide +kernel
theorem dL_law_1018 : decode cL_law 1018 = .ok (.invokevirtual 166, 3) := by decide +kernel
theorem dL_law_1021 : decode cL_law 1021 = .ok (.istore 6, 2) := by decide +kernel
theorem dL_law_1023 : decode cL_law 1023 = .ok (.aload_n 2, 1) := by decide +kernel
theorem dL_law_1024 : decode cL_law 1024 = .ok (.invokevirtual 124, 3) := by decide +kernel
theorem dL_law_1027 : decode cL_law 1027 = .ok (.iload 5, 2) := by decide +kernel
theorem dL_law_1029 : decode cL_law 1029 = .ok (.if_icmp .eq 5, 3) := by decide +kernel
theorem dL_law_1032 : decode cL_law 1032 = .ok (.iconst 0, 1) := by decide +kernel
theorem dL_law_1033 : decode cL_law 1033 = .ok (.ireturn, 1) := by decide +kernel
theorem dL_law_1034 : decode cL_law 1034 = .ok (.iload 5, 2) := by decide +kernel
theorem dL_law_1036 : decode cL_law 1036 = .ok (.ifCond .ne 22, 3) := by decide +kernel
theorem dL_law_1039 : decode cL_law 1039 = .ok (.aload_n 3, 1) := by decide +kernel
theorem dL_law_1040 : decode cL_law 1040 = .ok (.iconst 0, 1) := by decide +kernel
theorem dL_law_1041 : decode cL_law 1041 = .ok (.laload, 1) := by decide +kernel
theorem dL_law_1042 : decode cL_law 1042 = .ok (.iload 6, 2) := by decide +kernel
theorem dL_law_1044 : decode cL_law 1044 = .ok (.ifCond .eq 7, 3) := by decide +kernel
theorem dL_law_1047 : decode cL_law 1047 = .ok (.lconst 1, 1) := by decide +kernel
theorem dL_law_1048 : decode cL_law 1048 = .ok (.goto 4, 3) := by decide +kernel
theorem dL_law_1051 : decode cL_law 1051 = .ok (.lconst 0, 1) := by decide +kernel
theorem dL_law_1052 : decode cL_law 1052 = .ok (.lcmp, 1) := by decide +kernel
theorem dL_law_1053 : decode cL_law 1053 = .ok (.ifCond .eq 5, 3) := by decide +kernel
theorem dL_law_1056 : decode cL_law 1056 = .ok (.iconst 0, 1) := by decide +kernel
theorem dL_law_1057 : decode cL_law 1057 = .ok (.ireturn, 1) := by decide +kernel
theorem dL_law_1058 : decode cL_law 1058 = .ok (.goto 1183, 3) := by decide +kernel
theorem dL_law_1061 : decode cL_law 1061 = .ok (.aload_n 1, 1) := by decide +kernel
theorem dL_law_1062 : decode cL_law 1062 = .ok (.aload_n 0, 1) := by decide +kernel
theorem dL_law_1063 : decode cL_law 1063 = .ok (.iload 4, 2) := by decide +kernel
theorem dL_law_1065 : decode cL_law 1065 = .ok (.iconst 1, 1) := by decide +kernel
theorem dL_law_1066 : decode cL_law 1066 = .ok (.iadd, 1) := by decide +kernel
theorem dL_law_1067 : decode cL_law 1067 = .ok (.iaload, 1) := by decide +kernel
theorem dL_law_1068 : decode cL_law 1068 = .ok (.aload_n 3, 1) := by decide +kernel
theorem dL_law_1069 : decode cL_law 1069 = .ok (.invokestatic 167, 3) := by decide +kernel
theorem dL_law_1072 : decode cL_law 1072 = .ok (.istore 5, 2) := by decide +kernel
theorem dL_law_1074 : decode cL_law 1074 = .ok (.aload_n 2, 1) := by decide +kernel
theorem dL_law_1075 : decode cL_law 1075 = .ok (.aload_n 0, 1) := by decide +kernel
theorem dL_law_1076 : decode cL_law 1076 = .ok (.iload 4, 2) := by decide +kernel
theorem dL_law_1078 : decode cL_law 1078 = .ok (.iconst 1, 1) := by decide +kernel
theorem dL_law_1079 : decode cL_law 1079 = .ok (.iadd, 1) := by decide +kernel
theorem dL_law_1080 : decode cL_law 1080 = .ok (.iaload, 1) := by decide +kernel
theorem dL_law_1081 : decode cL_law 1081 = .ok (.invokevirtual 169, 3) := by decide +kernel
theorem dL_law_1084 : decode cL_law 1084 = .ok (.istore 6, 2) := by decide +kernel
theorem dL_law_1086 : decode cL_law 1086 = .ok (.aload_n 2, 1) := by decide +kernel
theorem dL_law_1087 : decode cL_law 1087 = .ok (.invokevirtual 124, 3) := by decide +kernel
theorem dL_law_1090 : decode cL_law 1090 = .ok (.iload 5, 2) := by decide +kernel
theorem dL_law_1092 : decode cL_law 1092 = .ok (.if_icmp .eq 5, 3) := by decide +kernel
theorem dL_law_1095 : decode cL_law 1095 = .ok (.iconst 0, 1) := by decide +kernel
theorem dL_law_1096 : decode cL_law 1096 = .ok (.ireturn, 1) := by decide +kernel
theorem dL_law_1097 : decode cL_law 1097 = .ok (.iload 5, 2) := by decide +kernel
theorem dL_law_1099 : decode cL_law 1099 = .ok (.ifCond .ne 15, 3) := by decide +kernel
theorem dL_law_1102 : decode cL_law 1102 = .ok (.aload_n 3, 1) := by decide +kernel
theorem dL_law_1103 : decode cL_law 1103 = .ok (.iconst 0, 1) := by decide +kernel
theorem dL_law_1104 : decode cL_law 1104 = .ok (.laload, 1) := by decide +kernel
theorem dL_law_1105 : decode cL_law 1105 = .ok (.iload 6, 2) := by decide +kernel
theorem dL_law_1107 : decode cL_law 1107 = .ok (.i2l, 1) := by decide +kernel
theorem dL_law_1108 : decode cL_law 1108 = .ok (.lcmp, 1) := by decide +kernel
theorem dL_law_1109 : decode cL_law 1109 = .ok (.ifCond .eq 5, 3) := by decide +kernel
theorem dL_law_1112 : decode cL_law 1112 = .ok (.iconst 0, 1) := by decide +kernel
theorem dL_law_1113 : decode cL_law 1113 = .ok (.ireturn, 1) := by decide +kernel
theorem dL_law_1114 : decode cL_law 1114 = .ok (.goto 1127, 3) := by decide +kernel
theorem dL_law_1117 : decode cL_law 1117 = .ok (.aload_n 1, 1) := by decide +kernel
theorem dL_law_1118 : decode cL_law 1118 = .ok (.aload_n 0, 1) := by decide +kernel
theorem dL_law_1119 : decode cL_law 1119 = .ok (.iload 4, 2) := by decide +kernel
theorem dL_law_1121 : decode cL_law 1121 = .ok (.iconst 1, 1) := by decide +kernel
theorem dL_law_1122 : decode cL_law 1122 = .ok (.iadd, 1) := by decide +kernel
theorem dL_law_1123 : decode cL_law 1123 = .ok (.iaload, 1) := by decide +kernel
theorem dL_law_1124 : decode cL_law 1124 = .ok (.aload_n 0, 1) := by decide +kernel
theorem dL_law_1125 : decode cL_law 1125 = .ok (.iload 4, 2) := by decide +kernel
theorem dL_law_1127 : decode cL_law 1127 = .ok (.iconst 2, 1) := by decide +kernel
theorem dL_law_1128 : decode cL_law 1128 = .ok (.iadd, 1) := by decide +kernel
theorem dL_law_1129 : decode cL_law 1129 = .ok (.iaload, 1) := by decide +kernel
theorem dL_law_1130 : decode cL_law 1130 = .ok (.ifCond .eq 7, 3) := by decide +kernel
theorem dL_law_1133 : decode cL_law 1133 = .ok (.iconst 1, 1) := by decide +kernel
theorem dL_law_1134 : decode cL_law 1134 = .ok (.goto 4, 3) := by decide +kernel
theorem dL_law_1137 : decode cL_law 1137 = .ok (.iconst 0, 1) := by decide +kernel
theorem dL_law_1138 : decode cL_law 1138 = .ok (.aload_n 3, 1) := by decide +kernel
theorem dL_law_1139 : decode cL_law 1139 = .ok (.invokestatic 170, 3) := by decide +kernel
theorem dL_law_1142 : decode cL_law 1142 = .ok (.istore 5, 2) := by decide +kernel
theorem dL_law_1144 : decode cL_law 1144 = .ok (.aload_n 2, 1) := by decide +kernel
theorem dL_law_1145 : decode cL_law 1145 = .ok (.aload_n 0, 1) := by decide +kernel
theorem dL_law_1146 : decode cL_law 1146 = .ok (.iload 4, 2) := by decide +kernel
theorem dL_law_1148 : decode cL_law 1148 = .ok (.iconst 1, 1) := by decide +kernel
theorem dL_law_1149 : decode cL_law 1149 = .ok (.iadd, 1) := by decide +kernel
theorem dL_law_1150 : decode cL_law 1150 = .ok (.iaload, 1) := by decide +kernel
theorem dL_law_1151 : decode cL_law 1151 = .ok (.aload_n 0, 1) := by decide +kernel
theorem dL_law_1152 : decode cL_law 1152 = .ok (.iload 4, 2) := by decide +kernel
theorem dL_law_1154 : decode cL_law 1154 = .ok (.iconst 2, 1) := by decide +kernel
theorem dL_law_1155 : decode cL_law 1155 = .ok (.iadd, 1) := by decide +kernel
theorem dL_law_1156 : decode cL_law 1156 = .ok (.iaload, 1) := by decide +kernel
theorem dL_law_1157 : decode cL_law 1157 = .ok (.ifCond .eq 7, 3) := by decide +kernel
theorem dL_law_1160 : decode cL_law 1160 = .ok (.iconst 1, 1) := by decide +kernel
theorem dL_law_1161 : decode cL_law 1161 = .ok (.goto 4, 3) := by decide +kernel
theorem dL_law_1164 : decode cL_law 1164 = .ok (.iconst 0, 1) := by decide +kernel
theorem dL_law_1165 : decode cL_law 1165 = .ok (.invokevirtual 173, 3) := by decide +kernel
theorem dL_law_1168 : decode cL_law 1168 = .ok (.istore 6, 2) := by decide +kernel
theorem dL_law_1170 : decode cL_law 1170 = .ok (.aload_n 2, 1) := by decide +kernel
theorem dL_law_1171 : decode cL_law 1171 = .ok (.invokevirtual 124, 3) := by decide +kernel
theorem dL_law_1174 : decode cL_law 1174 = .ok (.iload 5, 2) := by decide +kernel
theorem dL_law_1176 : decode cL_law 1176 = .ok (.if_icmp .eq 5, 3) := by decide +kernel
theorem dL_law_1179 : decode cL_law 1179 = .ok (.iconst 0, 1) := by decide +kernel
theorem dL_law_1180 : decode cL_law 1180 = .ok (.ireturn, 1) := by decide +kernel
theorem dL_law_1181 : decode cL_law 1181 = .ok (.iload 5, 2) := by decide +kernel
theorem dL_law_1183 : decode cL_law 1183 = .ok (.ifCond .ne 22, 3) := by decide +kernel
theorem dL_law_1186 : decode cL_law 1186 = .ok (.aload_n 3, 1) := by decide +kernel
theorem dL_law_1187 : decode cL_law 1187 = .ok (.iconst 0, 1) := by decide +kernel
theorem dL_law_1188 : decode cL_law 1188 = .ok (.laload, 1) := by decide +kernel
theorem dL_law_1189 : decode cL_law 1189 = .ok (.iload 6, 2) := by decide +kernel
theorem dL_law_1191 : decode cL_law 1191 = .ok (.ifCond .eq 7, 3) := by decide +kernel
theorem dL_law_1194 : decode cL_law 1194 = .ok (.lconst 1, 1) := by decide +kernel
theorem dL_law_1195 : decode cL_law 1195 = .ok (.goto 4, 3) := by decide +kernel
theorem dL_law_1198 : decode cL_law 1198 = .ok (.lconst 0, 1) := by decide +kernel
theorem dL_law_1199 : decode cL_law 1199 = .ok (.lcmp, 1) := by decide +kernel
theorem dL_law_1200 : decode cL_law 1200 = .ok (.ifCond .eq 5, 3) := by decide +kernel
theorem dL_law_1203 : decode cL_law 1203 = .ok (.iconst 0, 1) := by decide +kernel
theorem dL_law_1204 : decode cL_law 1204 = .ok (.ireturn, 1) := by decide +kernel
theorem dL_law_1205 : decode cL_law 1205 = .ok (.goto 1036, 3) := by decide +kernel
theorem dL_law_1208 : decode cL_law 1208 = .ok (.aload_n 1, 1) := by decide +kernel
theorem dL_law_1209 : decode cL_law 1209 = .ok (.aload_n 0, 1) := by decide +kernel
theorem dL_law_1210 : decode cL_law 1210 = .ok (.iload 4, 2) := by decide +kernel
theorem dL_law_1212 : decode cL_law 1212 = .ok (.iconst 1, 1) := by decide +kernel
theorem dL_law_1213 : decode cL_law 1213 = .ok (.iadd, 1) := by decide +kernel
theorem dL_law_1214 : decode cL_law 1214 = .ok (.iaload, 1) := by decide +kernel
theorem dL_law_1215 : decode cL_law 1215 = .ok (.aload_n 3, 1) := by decide +kernel
theorem dL_law_1216 : decode cL_law 1216 = .ok (.invokestatic 174, 3) := by decide +kernel
theorem dL_law_1219 : decode cL_law 1219 = .ok (.istore 5, 2) := by decide +kernel
theorem dL_law_1221 : decode cL_law 1221 = .ok (.aload_n 2, 1) := by decide +kernel
theorem dL_law_1222 : decode cL_law 1222 = .ok (.aload_n 0, 1) := by decide +kernel
theorem dL_law_1223 : decode cL_law 1223 = .ok (.iload 4, 2) := by decide +kernel
theorem dL_law_1225 : decode cL_law 1225 = .ok (.iconst 1, 1) := by decide +kernel
theorem dL_law_1226 : decode cL_law 1226 = .ok (.iadd, 1) := by decide +kernel
theorem dL_law_1227 : decode cL_law 1227 = .ok (.iaload, 1) := by decide +kernel
theorem dL_law_1228 : decode cL_law 1228 = .ok (.invokevirtual 176, 3) := by decide +kernel
theorem dL_law_1231 : decode cL_law 1231 = .ok (.istore 6, 2) := by decide +kernel
theorem dL_law_1233 : decode cL_law 1233 = .ok (.aload_n 2, 1) := by decide +kernel
theorem dL_law_1234 : decode cL_law 1234 = .ok (.invokevirtual 124, 3) := by decide +kernel
theorem dL_law_1237 : decode cL_law 1237 = .ok (.iload 5, 2) := by decide +kernel
theorem dL_law_1239 : decode cL_law 1239 = .ok (.if_icmp .eq 5, 3) := by decide +kernel
theorem dL_law_1242 : decode cL_law 1242 = .ok (.iconst 0, 1) := by decide +kernel
theorem dL_law_1243 : decode cL_law 1243 = .ok (.ireturn, 1) := by decide +kernel
theorem dL_law_1244 : decode cL_law 1244 = .ok (.iload 5, 2) := by decide +kernel
theorem dL_law_1246 : decode cL_law 1246 = .ok (.ifCond .ne 15, 3) := by decide +kernel
theorem dL_law_1249 : decode cL_law 1249 = .ok (.aload_n 3, 1) := by decide +kernel
theorem dL_law_1250 : decode cL_law 1250 = .ok (.iconst 0, 1) := by decide +kernel
theorem dL_law_1251 : decode cL_law 1251 = .ok (.laload, 1) := by decide +kernel
theorem dL_law_1252 : decode cL_law 1252 = .ok (.iload 6, 2) := by decide +kernel
theorem dL_law_1254 : decode cL_law 1254 = .ok (.i2l, 1) := by decide +kernel
theorem dL_law_1255 : decode cL_law 1255 = .ok (.lcmp, 1) := by decide +kernel
theorem dL_law_1256 : decode cL_law 1256 = .ok (.ifCond .eq 5, 3) := by decide +kernel
theorem dL_law_1259 : decode cL_law 1259 = .ok (.iconst 0, 1) := by decide +kernel
theorem dL_law_1260 : decode cL_law 1260 = .ok (.ireturn, 1) := by decide +kernel
theorem dL_law_1261 : decode cL_law 1261 = .ok (.goto 980, 3) := by decide +kernel
theorem dL_law_1264 : decode cL_law 1264 = .ok (.aload_n 1, 1) := by decide +kernel
theorem dL_law_1265 : decode cL_law 1265 = .ok (.aload_n 0, 1) := by decide +kernel
theorem dL_law_1266 : decode cL_law 1266 = .ok (.iload 4, 2) := by decide +kernel
theorem dL_law_1268 : decode cL_law 1268 = .ok (.iconst 1, 1) := by decide +kernel
theorem dL_law_1269 : decode cL_law 1269 = .ok (.iadd, 1) := by decide +kernel
theorem dL_law_1270 : decode cL_law 1270 = .ok (.iaload, 1) := by decide +kernel
theorem dL_law_1271 : decode cL_law 1271 = .ok (.aload_n 0, 1) := by decide +kernel
theorem dL_law_1272 : decode cL_law 1272 = .ok (.iload 4, 2) := by decide +kernel
theorem dL_law_1274 : decode cL_law 1274 = .ok (.iconst 2, 1) := by decide +kernel
theorem dL_law_1275 : decode cL_law 1275 = .ok (.iadd, 1) := by decide +kernel
theorem dL_law_1276 : decode cL_law 1276 = .ok (.iaload, 1) := by decide +kernel
theorem dL_law_1277 : decode cL_law 1277 = .ok (.aload_n 3, 1) := by decide +kernel
theorem dL_law_1278 : decode cL_law 1278 = .ok (.invokestatic 177, 3) := by decide +kernel
theorem dL_law_1281 : decode cL_law 1281 = .ok (.istore 5, 2) := by decide +kernel
theorem dL_law_1283 : decode cL_law 1283 = .ok (.aload_n 2, 1) := by decide +kernel
theorem dL_law_1284 : decode cL_law 1284 = .ok (.aload_n 0, 1) := by decide +kernel
theorem dL_law_1285 : decode cL_law 1285 = .ok (.iload 4, 2) := by decide +kernel
theorem dL_law_1287 : decode cL_law 1287 = .ok (.iconst 1, 1) := by decide +kernel
theorem dL_law_1288 : decode cL_law 1288 = .ok (.iadd, 1) := by decide +kernel
theorem dL_law_1289 : decode cL_law 1289 = .ok (.iaload, 1) := by decide +kernel
theorem dL_law_1290 : decode cL_law 1290 = .ok (.aload_n 0, 1) := by decide +kernel
theorem dL_law_1291 : decode cL_law 1291 = .ok (.iload 4, 2) := by decide +kernel
theorem dL_law_1293 : decode cL_law 1293 = .ok (.iconst 2, 1) := by decide +kernel
theorem dL_law_1294 : decode cL_law 1294 = .ok (.iadd, 1) := by decide +kernel
theorem dL_law_1295 : decode cL_law 1295 = .ok (.iaload, 1) := by decide +kernel
theorem dL_law_1296 : decode cL_law 1296 = .ok (.invokevirtual 179, 3) := by decide +kernel
theorem dL_law_1299 : decode cL_law 1299 = .ok (.istore 6, 2) := by decide +kernel
theorem dL_law_1301 : decode cL_law 1301 = .ok (.aload_n 2, 1) := by decide +kernel
theorem dL_law_1302 : decode cL_law 1302 = .ok (.invokevirtual 124, 3) := by decide +kernel
theorem dL_law_1305 : decode cL_law 1305 = .ok (.iload 5, 2) := by decide +kernel
theorem dL_law_1307 : decode cL_law 1307 = .ok (.if_icmp .eq 5, 3) := by decide +kernel
theorem dL_law_1310 : decode cL_law 1310 = .ok (.iconst 0, 1) := by decide +kernel
theorem dL_law_1311 : decode cL_law 1311 = .ok (.ireturn, 1) := by decide +kernel
theorem dL_law_1312 : decode cL_law 1312 = .ok (.iload 5, 2) := by decide +kernel
theorem dL_law_1314 : decode cL_law 1314 = .ok (.ifCond .ne 15, 3) := by decide +kernel
theorem dL_law_1317 : decode cL_law 1317 = .ok (.aload_n 3, 1) := by decide +kernel
theorem dL_law_1318 : decode cL_law 1318 = .ok (.iconst 0, 1) := by decide +kernel
theorem dL_law_1319 : decode cL_law 1319 = .ok (.laload, 1) := by decide +kernel
theorem dL_law_1320 : decode cL_law 1320 = .ok (.iload 6, 2) := by decide +kernel
theorem dL_law_1322 : decode cL_law 1322 = .ok (.i2l, 1) := by decide +kernel
theorem dL_law_1323 : decode cL_law 1323 = .ok (.lcmp, 1) := by decide +kernel
theorem dL_law_1324 : decode cL_law 1324 = .ok (.ifCond .eq 5, 3) := by decide +kernel
theorem dL_law_1327 : decode cL_law 1327 = .ok (.iconst 0, 1) := by decide +kernel
theorem dL_law_1328 : decode cL_law 1328 = .ok (.ireturn, 1) := by decide +kernel
theorem dL_law_1329 : decode cL_law 1329 = .ok (.goto 912, 3) := by decide +kernel
theorem dL_law_1332 : decode cL_law 1332 = .ok (.aload_n 1, 1) := by decide +kernel
theorem dL_law_1333 : decode cL_law 1333 = .ok (.aload_n 0, 1) := by decide +kernel
theorem dL_law_1334 : decode cL_law 1334 = .ok (.iload 4, 2) := by decide +kernel
theorem dL_law_1336 : decode cL_law 1336 = .ok (.iconst 1, 1) := by decide +kernel
theorem dL_law_1337 : decode cL_law 1337 = .ok (.iadd, 1) := by decide +kernel
theorem dL_law_1338 : decode cL_law 1338 = .ok (.iaload, 1) := by decide +kernel
theorem dL_law_1339 : decode cL_law 1339 = .ok (.aload_n 3, 1) := by decide +kernel
theorem dL_law_1340 : decode cL_law 1340 = .ok (.invokestatic 180, 3) := by decide +kernel
theorem dL_law_1343 : decode cL_law 1343 = .ok (.istore 5, 2) := by decide +kernel
theorem dL_law_1345 : decode cL_law 1345 = .ok (.aload_n 2, 1) := by decide +kernel
theorem dL_law_1346 : decode cL_law 1346 = .ok (.aload_n 0, 1) := by decide +kernel
theorem dL_law_1347 : decode cL_law 1347 = .ok (.iload 4, 2) := by decide +kernel
theorem dL_law_1349 : decode cL_law 1349 = .ok (.iconst 1, 1) := by decide +kernel
theorem dL_law_1350 : decode cL_law 1350 = .ok (.iadd, 1) := by decide +kernel
theorem dL_law_1351 : decode cL_law 1351 = .ok (.iaload, 1) := by decide +kernel
theorem dL_law_1352 : decode cL_law 1352 = .ok (.invokevirtual 182, 3) := by decide +kernel
theorem dL_law_1355 : decode cL_law 1355 = .ok (.istore 6, 2) := by decide +kernel
theorem dL_law_1357 : decode cL_law 1357 = .ok (.aload_n 2, 1) := by decide +kernel
theorem dL_law_1358 : decode cL_law 1358 = .ok (.invokevirtual 124, 3) := by decide +kernel
theorem dL_law_1361 : decode cL_law 1361 = .ok (.iload 5, 2) := by decide +kernel
theorem dL_law_1363 : decode cL_law 1363 = .ok (.if_icmp .eq 5, 3) := by decide +kernel
theorem dL_law_1366 : decode cL_law 1366 = .ok (.iconst 0, 1) := by decide +kernel
theorem dL_law_1367 : decode cL_law 1367 = .ok (.ireturn, 1) := by decide +kernel
theorem dL_law_1368 : decode cL_law 1368 = .ok (.iload 5, 2) := by decide +kernel
theorem dL_law_1370 : decode cL_law 1370 = .ok (.ifCond .ne 15, 3) := by decide +kernel
theorem dL_law_1373 : decode cL_law 1373 = .ok (.aload_n 3, 1) := by decide +kernel
theorem dL_law_1374 : decode cL_law 1374 = .ok (.iconst 0, 1) := by decide +kernel
theorem dL_law_1375 : decode cL_law 1375 = .ok (.laload, 1) := by decide +kernel
theorem dL_law_1376 : decode cL_law 1376 = .ok (.iload 6, 2) := by decide +kernel
theorem dL_law_1378 : decode cL_law 1378 = .ok (.i2l, 1) := by decide +kernel
theorem dL_law_1379 : decode cL_law 1379 = .ok (.lcmp, 1) := by decide +kernel
theorem dL_law_1380 : decode cL_law 1380 = .ok (.ifCond .eq 5, 3) := by decide +kernel
theorem dL_law_1383 : decode cL_law 1383 = .ok (.iconst 0, 1) := by decide +kernel
theorem dL_law_1384 : decode cL_law 1384 = .ok (.ireturn, 1) := by decide +kernel
theorem dL_law_1385 : decode cL_law 1385 = .ok (.goto 856, 3) := by decide +kernel
theorem dL_law_1388 : decode cL_law 1388 = .ok (.aload_n 1, 1) := by decide +kernel
theorem dL_law_1389 : decode cL_law 1389 = .ok (.invokevirtual 183, 3) := by decide +kernel
theorem dL_law_1392 : decode cL_law 1392 = .ok (.aload_n 2, 1) := by decide +kernel
theorem dL_law_1393 : decode cL_law 1393 = .ok (.invokevirtual 186, 3) := by decide +kernel
theorem dL_law_1396 : decode cL_law 1396 = .ok (.if_icmp .eq 845, 3) := by decide +kernel
theorem dL_law_1399 : decode cL_law 1399 = .ok (.iconst 0, 1) := by decide +kernel
theorem dL_law_1400 : decode cL_law 1400 = .ok (.ireturn, 1) := by decide +kernel
theorem dL_law_1401 : decode cL_law 1401 = .ok (.aload_n 1, 1) := by decide +kernel
theorem dL_law_1402 : decode cL_law 1402 = .ok (.invokevirtual 187, 3) := by decide +kernel
theorem dL_law_1405 : decode cL_law 1405 = .ok (.aload_n 2, 1) := by decide +kernel
theorem dL_law_1406 : decode cL_law 1406 = .ok (.invokevirtual 190, 3) := by decide +kernel
theorem dL_law_1409 : decode cL_law 1409 = .ok (.if_icmp .eq 832, 3) := by decide +kernel
theorem dL_law_1412 : decode cL_law 1412 = .ok (.iconst 0, 1) := by decide +kernel
theorem dL_law_1413 : decode cL_law 1413 = .ok (.ireturn, 1) := by decide +kernel
theorem dL_law_1414 : decode cL_law 1414 = .ok (.aload_n 1, 1) := by decide +kernel
theorem dL_law_1415 : decode cL_law 1415 = .ok (.aload_n 0, 1) := by decide +kernel
theorem dL_law_1416 : decode cL_law 1416 = .ok (.iload 4, 2) := by decide +kernel
theorem dL_law_1418 : decode cL_law 1418 = .ok (.iconst 1, 1) := by decide +kernel
theorem dL_law_1419 : decode cL_law 1419 = .ok (.iadd, 1) := by decide +kernel
theorem dL_law_1420 : decode cL_law 1420 = .ok (.iaload, 1) := by decide +kernel
theorem dL_law_1421 : decode cL_law 1421 = .ok (.aload_n 3, 1) := by decide +kernel
theorem dL_law_1422 : decode cL_law 1422 = .ok (.invokestatic 191, 3) := by decide +kernel
theorem dL_law_1425 : decode cL_law 1425 = .ok (.istore 5, 2) := by decide +kernel
theorem dL_law_1427 : decode cL_law 1427 = .ok (.aload_n 2, 1) := by decide +kernel
theorem dL_law_1428 : decode cL_law 1428 = .ok (.aload_n 0, 1) := by decide +kernel
theorem dL_law_1429 : decode cL_law 1429 = .ok (.iload 4, 2) := by decide +kernel
theorem dL_law_1431 : decode cL_law 1431 = .ok (.iconst 1, 1) := by decide +kernel
theorem dL_law_1432 : decode cL_law 1432 = .ok (.iadd, 1) := by decide +kernel
theorem dL_law_1433 : decode cL_law 1433 = .ok (.iaload, 1) := by decide +kernel
theorem dL_law_1434 : decode cL_law 1434 = .ok (.invokevirtual 193, 3) := by decide +kernel
theorem dL_law_1437 : decode cL_law 1437 = .ok (.istore 6, 2) := by decide +kernel
theorem dL_law_1439 : decode cL_law 1439 = .ok (.aload_n 2, 1) := by decide +kernel
theorem dL_law_1440 : decode cL_law 1440 = .ok (.invokevirtual 124, 3) := by decide +kernel
theorem dL_law_1443 : decode cL_law 1443 = .ok (.iload 5, 2) := by decide +kernel
theorem dL_law_1445 : decode cL_law 1445 = .ok (.if_icmp .eq 5, 3) := by decide +kernel
theorem dL_law_1448 : decode cL_law 1448 = .ok (.iconst 0, 1) := by decide +kernel
theorem dL_law_1449 : decode cL_law 1449 = .ok (.ireturn, 1) := by decide +kernel
theorem dL_law_1450 : decode cL_law 1450 = .ok (.iload 5, 2) := by decide +kernel
theorem dL_law_1452 : decode cL_law 1452 = .ok (.ifCond .ne 15, 3) := by decide +kernel
theorem dL_law_1455 : decode cL_law 1455 = .ok (.aload_n 3, 1) := by decide +kernel
theorem dL_law_1456 : decode cL_law 1456 = .ok (.iconst 0, 1) := by decide +kernel
theorem dL_law_1457 : decode cL_law 1457 = .ok (.laload, 1) := by decide +kernel
theorem dL_law_1458 : decode cL_law 1458 = .ok (.iload 6, 2) := by decide +kernel
theorem dL_law_1460 : decode cL_law 1460 = .ok (.i2l, 1) := by decide +kernel
theorem dL_law_1461 : decode cL_law 1461 = .ok (.lcmp, 1) := by decide +kernel
theorem dL_law_1462 : decode cL_law 1462 = .ok (.ifCond .eq 5, 3) := by decide +kernel
theorem dL_law_1465 : decode cL_law 1465 = .ok (.iconst 0, 1) := by decide +kernel
theorem dL_law_1466 : decode cL_law 1466 = .ok (.ireturn, 1) := by decide +kernel
theorem dL_law_1467 : decode cL_law 1467 = .ok (.goto 774, 3) := by decide +kernel
theorem dL_law_1470 : decode cL_law 1470 = .ok (.aload_n 1, 1) := by decide +kernel
theorem dL_law_1471 : decode cL_law 1471 = .ok (.aload_n 0, 1) := by decide +kernel
theorem dL_law_1472 : decode cL_law 1472 = .ok (.iload 4, 2) := by decide +kernel
theorem dL_law_1474 : decode cL_law 1474 = .ok (.iconst 1, 1) := by decide +kernel
theorem dL_law_1475 : decode cL_law 1475 = .ok (.iadd, 1) := by decide +kernel
theorem dL_law_1476 : decode cL_law 1476 = .ok (.iaload, 1) := by decide +kernel
theorem dL_law_1477 : decode cL_law 1477 = .ok (.aload_n 3, 1) := by decide +kernel
theorem dL_law_1478 : decode cL_law 1478 = .ok (.invokestatic 194, 3) := by decide +kernel
theorem dL_law_1481 : decode cL_law 1481 = .ok (.istore 5, 2) := by decide +kernel
theorem dL_law_1483 : decode cL_law 1483 = .ok (.aload_n 2, 1) := by decide +kernel
theorem dL_law_1484 : decode cL_law 1484 = .ok (.aload_n 0, 1) := by decide +kernel
theorem dL_law_1485 : decode cL_law 1485 = .ok (.iload 4, 2) := by decide +kernel
theorem dL_law_1487 : decode cL_law 1487 = .ok (.iconst 1, 1) := by decide +kernel
theorem dL_law_1488 : decode cL_law 1488 = .ok (.iadd, 1) := by decide +kernel
theorem dL_law_1489 : decode cL_law 1489 = .ok (.iaload, 1) := by decide +kernel
theorem dL_law_1490 : decode cL_law 1490 = .ok (.invokevirtual 196, 3) := by decide +kernel
theorem dL_law_1493 : decode cL_law 1493 = .ok (.istore 6, 2) := by decide +kernel
theorem dL_law_1495 : decode cL_law 1495 = .ok (.aload_n 2, 1) := by decide +kernel
theorem dL_law_1496 : decode cL_law 1496 = .ok (.invokevirtual 124, 3) := by decide +kernel
theorem dL_law_1499 : decode cL_law 1499 = .ok (.iload 5, 2) := by decide +kernel
theorem dL_law_1501 : decode cL_law 1501 = .ok (.if_icmp .eq 5, 3) := by decide +kernel
theorem dL_law_1504 : decode cL_law 1504 = .ok (.iconst 0, 1) := by decide +kernel
theorem dL_law_1505 : decode cL_law 1505 = .ok (.ireturn, 1) := by decide +kernel
theorem dL_law_1506 : decode cL_law 1506 = .ok (.iload 5, 2) := by decide +kernel
theorem dL_law_1508 : decode cL_law 1508 = .ok (.ifCond .ne 15, 3) := by decide +kernel
theorem dL_law_1511 : decode cL_law 1511 = .ok (.aload_n 3, 1) := by decide +kernel
theorem dL_law_1512 : decode cL_law 1512 = .ok (.iconst 0, 1) := by decide +kernel
theorem dL_law_1513 : decode cL_law 1513 = .ok (.laload, 1) := by decide +kernel
theorem dL_law_1514 : decode cL_law 1514 = .ok (.iload 6, 2) := by decide +kernel
theorem dL_law_1516 : decode cL_law 1516 = .ok (.i2l, 1) := by decide +kernel
theorem dL_law_1517 : decode cL_law 1517 = .ok (.lcmp, 1) := by decide +kernel
theorem dL_law_1518 : decode cL_law 1518 = .ok (.ifCond .eq 5, 3) := by decide +kernel
theorem dL_law_1521 : decode cL_law 1521 = .ok (.iconst 0, 1) := by decide +kernel
theorem dL_law_1522 : decode cL_law 1522 = .ok (.ireturn, 1) := by decide +kernel
theorem dL_law_1523 : decode cL_law 1523 = .ok (.goto 718, 3) := by decide +kernel
theorem dL_law_1526 : decode cL_law 1526 = .ok (.aload_n 1, 1) := by decide +kernel
theorem dL_law_1527 : decode cL_law 1527 = .ok (.aload_n 0, 1) := by decide +kernel
theorem dL_law_1528 : decode cL_law 1528 = .ok (.iload 4, 2) := by decide +kernel
theorem dL_law_1530 : decode cL_law 1530 = .ok (.iconst 1, 1) := by decide +kernel
theorem dL_law_1531 : decode cL_law 1531 = .ok (.iadd, 1) := by decide +kernel
theorem dL_law_1532 : decode cL_law 1532 = .ok (.iaload, 1) := by decide +kernel
theorem dL_law_1533 : decode cL_law 1533 = .ok (.aload_n 0, 1) := by decide +kernel
theorem dL_law_1534 : decode cL_law 1534 = .ok (.iload 4, 2) := by decide +kernel
theorem dL_law_1536 : decode cL_law 1536 = .ok (.iconst 2, 1) := by decide +kernel
theorem dL_law_1537 : decode cL_law 1537 = .ok (.iadd, 1) := by decide +kernel
theorem dL_law_1538 : decode cL_law 1538 = .ok (.iaload, 1) := by decide +kernel
theorem dL_law_1539 : decode cL_law 1539 = .ok (.aload_n 3, 1) := by decide +kernel
theorem dL_law_1540 : decode cL_law 1540 = .ok (.invokestatic 197, 3) := by decide +kernel
theorem dL_law_1543 : decode cL_law 1543 = .ok (.istore 5, 2) := by decide +kernel
theorem dL_law_1545 : decode cL_law 1545 = .ok (.aload_n 2, 1) := by decide +kernel
theorem dL_law_1546 : decode cL_law 1546 = .ok (.aload_n 0, 1) := by decide +kernel
theorem dL_law_1547 : decode cL_law 1547 = .ok (.iload 4, 2) := by decide +kernel
theorem dL_law_1549 : decode cL_law 1549 = .ok (.iconst 1, 1) := by decide +kernel
theorem dL_law_1550 : decode cL_law 1550 = .ok (.iadd, 1) := by decide +kernel
theorem dL_law_1551 : decode cL_law 1551 = .ok (.iaload, 1) := by decide +kernel
theorem dL_law_1552 : decode cL_law 1552 = .ok (.aload_n 0, 1) := by decide +kernel
theorem dL_law_1553 : decode cL_law 1553 = .ok (.iload 4, 2) := by decide +kernel
theorem dL_law_1555 : decode cL_law 1555 = .ok (.iconst 2, 1) := by decide +kernel
theorem dL_law_1556 : decode cL_law 1556 = .ok (.iadd, 1) := by decide +kernel
theorem dL_law_1557 : decode cL_law 1557 = .ok (.iaload, 1) := by decide +kernel
theorem dL_law_1558 : decode cL_law 1558 = .ok (.invokevirtual 199, 3) := by decide +kernel
theorem dL_law_1561 : decode cL_law 1561 = .ok (.istore 6, 2) := by decide +kernel
theorem dL_law_1563 : decode cL_law 1563 = .ok (.aload_n 2, 1) := by decide +kernel
theorem dL_law_1564 : decode cL_law 1564 = .ok (.invokevirtual 124, 3) := by decide +kernel
theorem dL_law_1567 : decode cL_law 1567 = .ok (.iload 5, 2) := by decide +kernel
theorem dL_law_1569 : decode cL_law 1569 = .ok (.if_icmp .eq 5, 3) := by decide +kernel
theorem dL_law_1572 : decode cL_law 1572 = .ok (.iconst 0, 1) := by decide +kernel
theorem dL_law_1573 : decode cL_law 1573 = .ok (.ireturn, 1) := by decide +kernel
theorem dL_law_1574 : decode cL_law 1574 = .ok (.iload 5, 2) := by decide +kernel
theorem dL_law_1576 : decode cL_law 1576 = .ok (.ifCond .ne 15, 3) := by decide +kernel
theorem dL_law_1579 : decode cL_law 1579 = .ok (.aload_n 3, 1) := by decide +kernel
theorem dL_law_1580 : decode cL_law 1580 = .ok (.iconst 0, 1) := by decide +kernel
theorem dL_law_1581 : decode cL_law 1581 = .ok (.laload, 1) := by decide +kernel
theorem dL_law_1582 : decode cL_law 1582 = .ok (.iload 6, 2) := by decide +kernel
theorem dL_law_1584 : decode cL_law 1584 = .ok (.i2l, 1) := by decide +kernel
theorem dL_law_1585 : decode cL_law 1585 = .ok (.lcmp, 1) := by decide +kernel
theorem dL_law_1586 : decode cL_law 1586 = .ok (.ifCond .eq 5, 3) := by decide +kernel
theorem dL_law_1589 : decode cL_law 1589 = .ok (.iconst 0, 1) := by decide +kernel
theorem dL_law_1590 : decode cL_law 1590 = .ok (.ireturn, 1) := by decide +kernel
theorem dL_law_1591 : decode cL_law 1591 = .ok (.goto 650, 3) := by decide +kernel
theorem dL_law_1594 : decode cL_law 1594 = .ok (.aload_n 1, 1) := by decide +kernel
theorem dL_law_1595 : decode cL_law 1595 = .ok (.aload_n 0, 1) := by decide +kernel
theorem dL_law_1596 : decode cL_law 1596 = .ok (.iload 4, 2) := by decide +kernel
theorem dL_law_1598 : decode cL_law 1598 = .ok (.iconst 1, 1) := by decide +kernel
theorem dL_law_1599 : decode cL_law 1599 = .ok (.iadd, 1) := by decide +kernel
theorem dL_law_1600 : decode cL_law 1600 = .ok (.iaload, 1) := by decide +kernel
theorem dL_law_1601 : decode cL_law 1601 = .ok (.aload_n 0, 1) := by decide +kernel
theorem dL_law_1602 : decode cL_law 1602 = .ok (.iload 4, 2) := by decide +kernel
theorem dL_law_1604 : decode cL_law 1604 = .ok (.iconst 2, 1) := by decide +kernel
theorem dL_law_1605 : decode cL_law 1605 = .ok (.iadd, 1) := by decide +kernel
theorem dL_law_1606 : decode cL_law 1606 = .ok (.iaload, 1) := by decide +kernel
theorem dL_law_1607 : decode cL_law 1607 = .ok (.aload_n 3, 1) := by decide +kernel
theorem dL_law_1608 : decode cL_law 1608 = .ok (.invokestatic 200, 3) := by decide +kernel
theorem dL_law_1611 : decode cL_law 1611 = .ok (.istore 5, 2) := by decide +kernel
theorem dL_law_1613 : decode cL_law 1613 = .ok (.aload_n 2, 1) := by decide +kernel
theorem dL_law_1614 : decode cL_law 1614 = .ok (.aload_n 0, 1) := by decide +kernel
theorem dL_law_1615 : decode cL_law 1615 = .ok (.iload 4, 2) := by decide +kernel
theorem dL_law_1617 : decode cL_law 1617 = .ok (.iconst 1, 1) := by decide +kernel
theorem dL_law_1618 : decode cL_law 1618 = .ok (.iadd, 1) := by decide +kernel
theorem dL_law_1619 : decode cL_law 1619 = .ok (.iaload, 1) := by decide +kernel
theorem dL_law_1620 : decode cL_law 1620 = .ok (.aload_n 0, 1) := by decide +kernel
theorem dL_law_1621 : decode cL_law 1621 = .ok (.iload 4, 2) := by decide +kernel
theorem dL_law_1623 : decode cL_law 1623 = .ok (.iconst 2, 1) := by decide +kernel
theorem dL_law_1624 : decode cL_law 1624 = .ok (.iadd, 1) := by decide +kernel
theorem dL_law_1625 : decode cL_law 1625 = .ok (.iaload, 1) := by decide +kernel
theorem dL_law_1626 : decode cL_law 1626 = .ok (.invokevirtual 202, 3) := by decide +kernel
theorem dL_law_1629 : decode cL_law 1629 = .ok (.istore 6, 2) := by decide +kernel
theorem dL_law_1631 : decode cL_law 1631 = .ok (.aload_n 2, 1) := by decide +kernel
theorem dL_law_1632 : decode cL_law 1632 = .ok (.invokevirtual 124, 3) := by decide +kernel
theorem dL_law_1635 : decode cL_law 1635 = .ok (.iload 5, 2) := by decide +kernel
theorem dL_law_1637 : decode cL_law 1637 = .ok (.if_icmp .eq 5, 3) := by decide +kernel
theorem dL_law_1640 : decode cL_law 1640 = .ok (.iconst 0, 1) := by decide +kernel
theorem dL_law_1641 : decode cL_law 1641 = .ok (.ireturn, 1) := by decide +kernel
theorem dL_law_1642 : decode cL_law 1642 = .ok (.iload 5, 2) := by decide +kernel
theorem dL_law_1644 : decode cL_law 1644 = .ok (.ifCond .ne 15, 3) := by decide +kernel
theorem dL_law_1647 : decode cL_law 1647 = .ok (.aload_n 3, 1) := by decide +kernel
theorem dL_law_1648 : decode cL_law 1648 = .ok (.iconst 0, 1) := by decide +kernel
theorem dL_law_1649 : decode cL_law 1649 = .ok (.laload, 1) := by decide +kernel
theorem dL_law_1650 : decode cL_law 1650 = .ok (.iload 6, 2) := by decide +kernel
theorem dL_law_1652 : decode cL_law 1652 = .ok (.i2l, 1) := by decide +kernel
theorem dL_law_1653 : decode cL_law 1653 = .ok (.lcmp, 1) := by decide +kernel
theorem dL_law_1654 : decode cL_law 1654 = .ok (.ifCond .eq 5, 3) := by decide +kernel
theorem dL_law_1657 : decode cL_law 1657 = .ok (.iconst 0, 1) := by decide +kernel
theorem dL_law_1658 : decode cL_law 1658 = .ok (.ireturn, 1) := by decide +kernel
theorem dL_law_1659 : decode cL_law 1659 = .ok (.goto 582, 3) := by decide +kernel
theorem dL_law_1662 : decode cL_law 1662 = .ok (.aload_n 1, 1) := by decide +kernel
theorem dL_law_1663 : decode cL_law 1663 = .ok (.aload_n 0, 1) := by decide +kernel
theorem dL_law_1664 : decode cL_law 1664 = .ok (.iload 4, 2) := by decide +kernel
theorem dL_law_1666 : decode cL_law 1666 = .ok (.iconst 1, 1) := by decide +kernel
theorem dL_law_1667 : decode cL_law 1667 = .ok (.iadd, 1) := by decide +kernel
theorem dL_law_1668 : decode cL_law 1668 = .ok (.iaload, 1) := by decide +kernel
theorem dL_law_1669 : decode cL_law 1669 = .ok (.aload_n 0, 1) := by decide +kernel
theorem dL_law_1670 : decode cL_law 1670 = .ok (.iload 4, 2) := by decide +kernel
theorem dL_law_1672 : decode cL_law 1672 = .ok (.iconst 2, 1) := by decide +kernel
theorem dL_law_1673 : decode cL_law 1673 = .ok (.iadd, 1) := by decide +kernel
theorem dL_law_1674 : decode cL_law 1674 = .ok (.iaload, 1) := by decide +kernel
theorem dL_law_1675 : decode cL_law 1675 = .ok (.aload_n 0, 1) := by decide +kernel
theorem dL_law_1676 : decode cL_law 1676 = .ok (.iload 4, 2) := by decide +kernel
theorem dL_law_1678 : decode cL_law 1678 = .ok (.iconst 3, 1) := by decide +kernel
theorem dL_law_1679 : decode cL_law 1679 = .ok (.iadd, 1) := by decide +kernel
theorem dL_law_1680 : decode cL_law 1680 = .ok (.iaload, 1) := by decide +kernel
theorem dL_law_1681 : decode cL_law 1681 = .ok (.aload_n 3, 1) := by decide +kernel
theorem dL_law_1682 : decode cL_law 1682 = .ok (.invokestatic 203, 3) := by decide +kernel
theorem dL_law_1685 : decode cL_law 1685 = .ok (.istore 5, 2) := by decide +kernel
theorem dL_law_1687 : decode cL_law 1687 = .ok (.aload_n 2, 1) := by decide +kernel
theorem dL_law_1688 : decode cL_law 1688 = .ok (.aload_n 0, 1) := by decide +kernel
theorem dL_law_1689 : decode cL_law 1689 = .ok (.iload 4, 2) := by decide +kernel
theorem dL_law_1691 : decode cL_law 1691 = .ok (.iconst 1, 1) := by decide +kernel
theorem dL_law_1692 : decode cL_law 1692 = .ok (.iadd, 1) := by decide +kernel
theorem dL_law_1693 : decode cL_law 1693 = .ok (.iaload, 1) := by decide +kernel
theorem dL_law_1694 : decode cL_law 1694 = .ok (.aload_n 0, 1) := by decide +kernel
theorem dL_law_1695 : decode cL_law 1695 = .ok (.iload 4, 2) := by decide +kernel
theorem dL_law_1697 : decode cL_law 1697 = .ok (.iconst 2, 1) := by decide +kernel
theorem dL_law_1698 : decode cL_law 1698 = .ok (.iadd, 1) := by decide +kernel
theorem dL_law_1699 : decode cL_law 1699 = .ok (.iaload, 1) := by decide +kernel
theorem dL_law_1700 : decode cL_law 1700 = .ok (.aload_n 0, 1) := by decide +kernel
theorem dL_law_1701 : decode cL_law 1701 = .ok (.iload 4, 2) := by decide +kernel
theorem dL_law_1703 : decode cL_law 1703 = .ok (.iconst 3, 1) := by decide +kernel
theorem dL_law_1704 : decode cL_law 1704 = .ok (.iadd, 1) := by decide +kernel
theorem dL_law_1705 : decode cL_law 1705 = .ok (.iaload, 1) := by decide +kernel
theorem dL_law_1706 : decode cL_law 1706 = .ok (.invokevirtual 205, 3) := by decide +kernel
theorem dL_law_1709 : decode cL_law 1709 = .ok (.istore 6, 2) := by decide +kernel
theorem dL_law_1711 : decode cL_law 1711 = .ok (.aload_n 2, 1) := by decide +kernel
theorem dL_law_1712 : decode cL_law 1712 = .ok (.invokevirtual 124, 3) := by decide +kernel
theorem dL_law_1715 : decode cL_law 1715 = .ok (.iload 5, 2) := by decide +kernel
theorem dL_law_1717 : decode cL_law 1717 = .ok (.if_icmp .eq 5, 3) := by decide +kernel
theorem dL_law_1720 : decode cL_law 1720 = .ok (.iconst 0, 1) := by decide +kernel
theorem dL_law_1721 : decode cL_law 1721 = .ok (.ireturn, 1) := by decide +kernel
theorem dL_law_1722 : decode cL_law 1722 = .ok (.iload 5, 2) := by decide +kernel
theorem dL_law_1724 : decode cL_law 1724 = .ok (.ifCond .ne 15, 3) := by decide +kernel
theorem dL_law_1727 : decode cL_law 1727 = .ok (.aload_n 3, 1) := by decide +kernel
theorem dL_law_1728 : decode cL_law 1728 = .ok (.iconst 0, 1) := by decide +kernel
theorem dL_law_1729 : decode cL_law 1729 = .ok (.laload, 1) := by decide +kernel
theorem dL_law_1730 : decode cL_law 1730 = .ok (.iload 6, 2) := by decide +kernel
theorem dL_law_1732 : decode cL_law 1732 = .ok (.i2l, 1) := by decide +kernel
theorem dL_law_1733 : decode cL_law 1733 = .ok (.lcmp, 1) := by decide +kernel
theorem dL_law_1734 : decode cL_law 1734 = .ok (.ifCond .eq 5, 3) := by decide +kernel
theorem dL_law_1737 : decode cL_law 1737 = .ok (.iconst 0, 1) := by decide +kernel
theorem dL_law_1738 : decode cL_law 1738 = .ok (.ireturn, 1) := by decide +kernel
theorem dL_law_1739 : decode cL_law 1739 = .ok (.goto 502, 3) := by decide +kernel
theorem dL_law_1742 : decode cL_law 1742 = .ok (.aload_n 1, 1) := by decide +kernel
theorem dL_law_1743 : decode cL_law 1743 = .ok (.aload_n 0, 1) := by decide +kernel
theorem dL_law_1744 : decode cL_law 1744 = .ok (.iload 4, 2) := by decide +kernel
theorem dL_law_1746 : decode cL_law 1746 = .ok (.iconst 1, 1) := by decide +kernel
theorem dL_law_1747 : decode cL_law 1747 = .ok (.iadd, 1) := by decide +kernel
theorem dL_law_1748 : decode cL_law 1748 = .ok (.iaload, 1) := by decide +kernel
theorem dL_law_1749 : decode cL_law 1749 = .ok (.aload_n 0, 1) := by decide +kernel
theorem dL_law_1750 : decode cL_law 1750 = .ok (.iload 4, 2) := by decide +kernel
theorem dL_law_1752 : decode cL_law 1752 = .ok (.iconst 2, 1) := by decide +kernel
theorem dL_law_1753 : decode cL_law 1753 = .ok (.iadd, 1) := by decide +kernel
theorem dL_law_1754 : decode cL_law 1754 = .ok (.iaload, 1) := by decide +kernel
theorem dL_law_1755 : decode cL_law 1755 = .ok (.aload_n 0, 1) := by decide +kernel
theorem dL_law_1756 : decode cL_law 1756 = .ok (.iload 4, 2) := by decide +kernel
theorem dL_law_1758 : decode cL_law 1758 = .ok (.iconst 3, 1) := by decide +kernel
theorem dL_law_1759 : decode cL_law 1759 = .ok (.iadd, 1) := by decide +kernel
theorem dL_law_1760 : decode cL_law 1760 = .ok (.iaload, 1) := by decide +kernel
theorem dL_law_1761 : decode cL_law 1761 = .ok (.aload_n 0, 1) := by decide +kernel
theorem dL_law_1762 : decode cL_law 1762 = .ok (.iload 4, 2) := by decide +kernel
theorem dL_law_1764 : decode cL_law 1764 = .ok (.iconst 4, 1) := by decide +kernel
theorem dL_law_1765 : decode cL_law 1765 = .ok (.iadd, 1) := by decide +kernel
theorem dL_law_1766 : decode cL_law 1766 = .ok (.iaload, 1) := by decide +kernel
theorem dL_law_1767 : decode cL_law 1767 = .ok (.ifCond .eq 7, 3) := by decide +kernel
theorem dL_law_1770 : decode cL_law 1770 = .ok (.iconst 1, 1) := by decide +kernel
theorem dL_law_1771 : decode cL_law 1771 = .ok (.goto 4, 3) := by decide +kernel
theorem dL_law_1774 : decode cL_law 1774 = .ok (.iconst 0, 1) := by decide +kernel
theorem dL_law_1775 : decode cL_law 1775 = .ok (.aload_n 3, 1) := by decide +kernel
theorem dL_law_1776 : decode cL_law 1776 = .ok (.invokestatic 206, 3) := by decide +kernel
theorem dL_law_1779 : decode cL_law 1779 = .ok (.istore 5, 2) := by decide +kernel
theorem dL_law_1781 : decode cL_law 1781 = .ok (.aload_n 2, 1) := by decide +kernel
theorem dL_law_1782 : decode cL_law 1782 = .ok (.aload_n 0, 1) := by decide +kernel
theorem dL_law_1783 : decode cL_law 1783 = .ok (.iload 4, 2) := by decide +kernel
theorem dL_law_1785 : decode cL_law 1785 = .ok (.iconst 1, 1) := by decide +kernel
theorem dL_law_1786 : decode cL_law 1786 = .ok (.iadd, 1) := by decide +kernel
theorem dL_law_1787 : decode cL_law 1787 = .ok (.iaload, 1) := by decide +kernel
theorem dL_law_1788 : decode cL_law 1788 = .ok (.aload_n 0, 1) := by decide +kernel
theorem dL_law_1789 : decode cL_law 1789 = .ok (.iload 4, 2) := by decide +kernel
theorem dL_law_1791 : decode cL_law 1791 = .ok (.iconst 2, 1) := by decide +kernel
theorem dL_law_1792 : decode cL_law 1792 = .ok (.iadd, 1) := by decide +kernel
theorem dL_law_1793 : decode cL_law 1793 = .ok (.iaload, 1) := by decide +kernel
theorem dL_law_1794 : decode cL_law 1794 = .ok (.aload_n 0, 1) := by decide +kernel
theorem dL_law_1795 : decode cL_law 1795 = .ok (.iload 4, 2) := by decide +kernel
theorem dL_law_1797 : decode cL_law 1797 = .ok (.iconst 3, 1) := by decide +kernel
theorem dL_law_1798 : decode cL_law 1798 = .ok (.iadd, 1) := by decide +kernel
theorem dL_law_1799 : decode cL_law 1799 = .ok (.iaload, 1) := by decide +kernel
theorem dL_law_1800 : decode cL_law 1800 = .ok (.aload_n 0, 1) := by decide +kernel
theorem dL_law_1801 : decode cL_law 1801 = .ok (.iload 4, 2) := by decide +kernel
theorem dL_law_1803 : decode cL_law 1803 = .ok (.iconst 4, 1) := by decide +kernel
theorem dL_law_1804 : decode cL_law 1804 = .ok (.iadd, 1) := by decide +kernel
theorem dL_law_1805 : decode cL_law 1805 = .ok (.iaload, 1) := by decide +kernel
theorem dL_law_1806 : decode cL_law 1806 = .ok (.ifCond .eq 7, 3) := by decide +kernel
theorem dL_law_1809 : decode cL_law 1809 = .ok (.iconst 1, 1) := by decide +kernel
theorem dL_law_1810 : decode cL_law 1810 = .ok (.goto 4, 3) := by decide +kernel
theorem dL_law_1813 : decode cL_law 1813 = .ok (.iconst 0, 1) := by decide +kernel
theorem dL_law_1814 : decode cL_law 1814 = .ok (.invokevirtual 209, 3) := by decide +kernel
theorem dL_law_1817 : decode cL_law 1817 = .ok (.istore 6, 2) := by decide +kernel
theorem dL_law_1819 : decode cL_law 1819 = .ok (.aload_n 2, 1) := by decide +kernel
theorem dL_law_1820 : decode cL_law 1820 = .ok (.invokevirtual 124, 3) := by decide +kernel
theorem dL_law_1823 : decode cL_law 1823 = .ok (.iload 5, 2) := by decide +kernel
theorem dL_law_1825 : decode cL_law 1825 = .ok (.if_icmp .eq 5, 3) := by decide +kernel
theorem dL_law_1828 : decode cL_law 1828 = .ok (.iconst 0, 1) := by decide +kernel
theorem dL_law_1829 : decode cL_law 1829 = .ok (.ireturn, 1) := by decide +kernel
theorem dL_law_1830 : decode cL_law 1830 = .ok (.iload 5, 2) := by decide +kernel
theorem dL_law_1832 : decode cL_law 1832 = .ok (.ifCond .ne 15, 3) := by decide +kernel
theorem dL_law_1835 : decode cL_law 1835 = .ok (.aload_n 3, 1) := by decide +kernel
theorem dL_law_1836 : decode cL_law 1836 = .ok (.iconst 0, 1) := by decide +kernel
theorem dL_law_1837 : decode cL_law 1837 = .ok (.laload, 1) := by decide +kernel
theorem dL_law_1838 : decode cL_law 1838 = .ok (.iload 6, 2) := by decide +kernel
theorem dL_law_1840 : decode cL_law 1840 = .ok (.i2l, 1) := by decide +kernel
theorem dL_law_1841 : decode cL_law 1841 = .ok (.lcmp, 1) := by decide +kernel
theorem dL_law_1842 : decode cL_law 1842 = .ok (.ifCond .eq 5, 3) := by decide +kernel
theorem dL_law_1845 : decode cL_law 1845 = .ok (.iconst 0, 1) := by decide +kernel
theorem dL_law_1846 : decode cL_law 1846 = .ok (.ireturn, 1) := by decide +kernel
theorem dL_law_1847 : decode cL_law 1847 = .ok (.goto 394, 3) := by decide +kernel
theorem dL_law_1850 : decode cL_law 1850 = .ok (.aload_n 1, 1) := by decide +kernel
theorem dL_law_1851 : decode cL_law 1851 = .ok (.aload_n 0, 1) := by decide +kernel
theorem dL_law_1852 : decode cL_law 1852 = .ok (.iload 4, 2) := by decide +kernel
theorem dL_law_1854 : decode cL_law 1854 = .ok (.iconst 1, 1) := by decide +kernel
theorem dL_law_1855 : decode cL_law 1855 = .ok (.iadd, 1) := by decide +kernel
theorem dL_law_1856 : decode cL_law 1856 = .ok (.iaload, 1) := by decide +kernel
theorem dL_law_1857 : decode cL_law 1857 = .ok (.aload_n 0, 1) := by decide +kernel
theorem dL_law_1858 : decode cL_law 1858 = .ok (.iload 4, 2) := by decide +kernel
theorem dL_law_1860 : decode cL_law 1860 = .ok (.iconst 2, 1) := by decide +kernel
theorem dL_law_1861 : decode cL_law 1861 = .ok (.iadd, 1) := by decide +kernel
theorem dL_law_1862 : decode cL_law 1862 = .ok (.iaload, 1) := by decide +kernel
theorem dL_law_1863 : decode cL_law 1863 = .ok (.aload_n 3, 1) := by decide +kernel
theorem dL_law_1864 : decode cL_law 1864 = .ok (.invokestatic 210, 3) := by decide +kernel
theorem dL_law_1867 : decode cL_law 1867 = .ok (.istore 5, 2) := by decide +kernel
theorem dL_law_1869 : decode cL_law 1869 = .ok (.aload_n 2, 1) := by decide +kernel
theorem dL_law_1870 : decode cL_law 1870 = .ok (.aload_n 0, 1) := by decide +kernel
theorem dL_law_1871 : decode cL_law 1871 = .ok (.iload 4, 2) := by decide +kernel
theorem dL_law_1873 : decode cL_law 1873 = .ok (.iconst 1, 1) := by decide +kernel
theorem dL_law_1874 : decode cL_law 1874 = .ok (.iadd, 1) := by decide +kernel
theorem dL_law_1875 : decode cL_law 1875 = .ok (.iaload, 1) := by decide +kernel
theorem dL_law_1876 : decode cL_law 1876 = .ok (.aload_n 0, 1) := by decide +kernel
theorem dL_law_1877 : decode cL_law 1877 = .ok (.iload 4, 2) := by decide +kernel
theorem dL_law_1879 : decode cL_law 1879 = .ok (.iconst 2, 1) := by decide +kernel
theorem dL_law_1880 : decode cL_law 1880 = .ok (.iadd, 1) := by decide +kernel
theorem dL_law_1881 : decode cL_law 1881 = .ok (.iaload, 1) := by decide +kernel
theorem dL_law_1882 : decode cL_law 1882 = .ok (.invokevirtual 212, 3) := by decide +kernel
theorem dL_law_1885 : decode cL_law 1885 = .ok (.istore 6, 2) := by decide +kernel
theorem dL_law_1887 : decode cL_law 1887 = .ok (.aload_n 2, 1) := by decide +kernel
theorem dL_law_1888 : decode cL_law 1888 = .ok (.invokevirtual 124, 3) := by decide +kernel
theorem dL_law_1891 : decode cL_law 1891 = .ok (.iload 5, 2) := by decide +kernel
theorem dL_law_1893 : decode cL_law 1893 = .ok (.if_icmp .eq 5, 3) := by decide +kernel
theorem dL_law_1896 : decode cL_law 1896 = .ok (.iconst 0, 1) := by decide +kernel
theorem dL_law_1897 : decode cL_law 1897 = .ok (.ireturn, 1) := by decide +kernel
theorem dL_law_1898 : decode cL_law 1898 = .ok (.iload 5, 2) := by decide +kernel
theorem dL_law_1900 : decode cL_law 1900 = .ok (.ifCond .ne 15, 3) := by decide +kernel
theorem dL_law_1903 : decode cL_law 1903 = .ok (.aload_n 3, 1) := by decide +kernel
theorem dL_law_1904 : decode cL_law 1904 = .ok (.iconst 0, 1) := by decide +kernel
theorem dL_law_1905 : decode cL_law 1905 = .ok (.laload, 1) := by decide +kernel
theorem dL_law_1906 : decode cL_law 1906 = .ok (.iload 6, 2) := by decide +kernel
theorem dL_law_1908 : decode cL_law 1908 = .ok (.i2l, 1) := by decide +kernel
theorem dL_law_1909 : decode cL_law 1909 = .ok (.lcmp, 1) := by decide +kernel
theorem dL_law_1910 : decode cL_law 1910 = .ok (.ifCond .eq 5, 3) := by decide +kernel
theorem dL_law_1913 : decode cL_law 1913 = .ok (.iconst 0, 1) := by decide +kernel
theorem dL_law_1914 : decode cL_law 1914 = .ok (.ireturn, 1) := by decide +kernel
theorem dL_law_1915 : decode cL_law 1915 = .ok (.goto 326, 3) := by decide +kernel
theorem dL_law_1918 : decode cL_law 1918 = .ok (.aload_n 1, 1) := by decide +kernel
theorem dL_law_1919 : decode cL_law 1919 = .ok (.aload_n 0, 1) := by decide +kernel
theorem dL_law_1920 : decode cL_law 1920 = .ok (.iload 4, 2) := by decide +kernel
theorem dL_law_1922 : decode cL_law 1922 = .ok (.iconst 1, 1) := by decide +kernel
theorem dL_law_1923 : decode cL_law 1923 = .ok (.iadd, 1) := by decide +kernel
theorem dL_law_1924 : decode cL_law 1924 = .ok (.iaload, 1) := by decide +kernel
theorem dL_law_1925 : decode cL_law 1925 = .ok (.aload_n 0, 1) := by decide +kernel
theorem dL_law_1926 : decode cL_law 1926 = .ok (.iload 4, 2) := by decide +kernel
theorem dL_law_1928 : decode cL_law 1928 = .ok (.iconst 2, 1) := by decide +kernel
theorem dL_law_1929 : decode cL_law 1929 = .ok (.iadd, 1) := by decide +kernel
theorem dL_law_1930 : decode cL_law 1930 = .ok (.iaload, 1) := by decide +kernel
theorem dL_law_1931 : decode cL_law 1931 = .ok (.aload_n 0, 1) := by decide +kernel
theorem dL_law_1932 : decode cL_law 1932 = .ok (.iload 4, 2) := by decide +kernel
theorem dL_law_1934 : decode cL_law 1934 = .ok (.iconst 3, 1) := by decide +kernel
theorem dL_law_1935 : decode cL_law 1935 = .ok (.iadd, 1) := by decide +kernel
theorem dL_law_1936 : decode cL_law 1936 = .ok (.iaload, 1) := by decide +kernel
theorem dL_law_1937 : decode cL_law 1937 = .ok (.aload_n 3, 1) := by decide +kernel
theorem dL_law_1938 : decode cL_law 1938 = .ok (.invokestatic 213, 3) := by decide +kernel
theorem dL_law_1941 : decode cL_law 1941 = .ok (.istore 5, 2) := by decide +kernel
theorem dL_law_1943 : decode cL_law 1943 = .ok (.aload_n 2, 1) := by decide +kernel
theorem dL_law_1944 : decode cL_law 1944 = .ok (.aload_n 0, 1) := by decide +kernel
theorem dL_law_1945 : decode cL_law 1945 = .ok (.iload 4, 2) := by decide +kernel
theorem dL_law_1947 : decode cL_law 1947 = .ok (.iconst 1, 1) := by decide +kernel
theorem dL_law_1948 : decode cL_law 1948 = .ok (.iadd, 1) := by decide +kernel
theorem dL_law_1949 : decode cL_law 1949 = .ok (.iaload, 1) := by decide +kernel
theorem dL_law_1950 : decode cL_law 1950 = .ok (.aload_n 0, 1) := by decide +kernel
theorem dL_law_1951 : decode cL_law 1951 = .ok (.iload 4, 2) := by decide +kernel
theorem dL_law_1953 : decode cL_law 1953 = .ok (.iconst 2, 1) := by decide +kernel
theorem dL_law_1954 : decode cL_law 1954 = .ok (.iadd, 1) := by decide +kernel
theorem dL_law_1955 : decode cL_law 1955 = .ok (.iaload, 1) := by decide +kernel
theorem dL_law_1956 : decode cL_law 1956 = .ok (.aload_n 0, 1) := by decide +kernel
theorem dL_law_1957 : decode cL_law 1957 = .ok (.iload 4, 2) := by decide +kernel
theorem dL_law_1959 : decode cL_law 1959 = .ok (.iconst 3, 1) := by decide +kernel
theorem dL_law_1960 : decode cL_law 1960 = .ok (.iadd, 1) := by decide +kernel
theorem dL_law_1961 : decode cL_law 1961 = .ok (.iaload, 1) := by decide +kernel
theorem dL_law_1962 : decode cL_law 1962 = .ok (.invokevirtual 215, 3) := by decide +kernel
theorem dL_law_1965 : decode cL_law 1965 = .ok (.istore 6, 2) := by decide +kernel
theorem dL_law_1967 : decode cL_law 1967 = .ok (.aload_n 2, 1) := by decide +kernel
theorem dL_law_1968 : decode cL_law 1968 = .ok (.invokevirtual 124, 3) := by decide +kernel
theorem dL_law_1971 : decode cL_law 1971 = .ok (.iload 5, 2) := by decide +kernel
theorem dL_law_1973 : decode cL_law 1973 = .ok (.if_icmp .eq 5, 3) := by decide +kernel
theorem dL_law_1976 : decode cL_law 1976 = .ok (.iconst 0, 1) := by decide +kernel
theorem dL_law_1977 : decode cL_law 1977 = .ok (.ireturn, 1) := by decide +kernel
theorem dL_law_1978 : decode cL_law 1978 = .ok (.iload 5, 2) := by decide +kernel
theorem dL_law_1980 : decode cL_law 1980 = .ok (.ifCond .ne 15, 3) := by decide +kernel
theorem dL_law_1983 : decode cL_law 1983 = .ok (.aload_n 3, 1) := by decide +kernel
theorem dL_law_1984 : decode cL_law 1984 = .ok (.iconst 0, 1) := by decide +kernel
theorem dL_law_1985 : decode cL_law 1985 = .ok (.laload, 1) := by decide +kernel
theorem dL_law_1986 : decode cL_law 1986 = .ok (.iload 6, 2) := by decide +kernel
theorem dL_law_1988 : decode cL_law 1988 = .ok (.i2l, 1) := by decide +kernel
theorem dL_law_1989 : decode cL_law 1989 = .ok (.lcmp, 1) := by decide +kernel
theorem dL_law_1990 : decode cL_law 1990 = .ok (.ifCond .eq 5, 3) := by decide +kernel
theorem dL_law_1993 : decode cL_law 1993 = .ok (.iconst 0, 1) := by decide +kernel
theorem dL_law_1994 : decode cL_law 1994 = .ok (.ireturn, 1) := by decide +kernel
theorem dL_law_1995 : decode cL_law 1995 = .ok (.goto 246, 3) := by decide +kernel
theorem dL_law_1998 : decode cL_law 1998 = .ok (.aload_n 1, 1) := by decide +kernel
theorem dL_law_1999 : decode cL_law 1999 = .ok (.aload_n 0, 1) := by decide +kernel
theorem dL_law_2000 : decode cL_law 2000 = .ok (.iload 4, 2) := by decide +kernel
theorem dL_law_2002 : decode cL_law 2002 = .ok (.iconst 1, 1) := by decide +kernel
theorem dL_law_2003 : decode cL_law 2003 = .ok (.iadd, 1) := by decide +kernel
theorem dL_law_2004 : decode cL_law 2004 = .ok (.iaload, 1) := by decide +kernel
theorem dL_law_2005 : decode cL_law 2005 = .ok (.aload_n 3, 1) := by decide +kernel
theorem dL_law_2006 : decode cL_law 2006 = .ok (.invokestatic 216, 3) := by decide +kernel
theorem dL_law_2009 : decode cL_law 2009 = .ok (.istore 5, 2) := by decide +kernel
theorem dL_law_2011 : decode cL_law 2011 = .ok (.aload_n 2, 1) := by decide +kernel
theorem dL_law_2012 : decode cL_law 2012 = .ok (.aload_n 0, 1) := by decide +kernel
theorem dL_law_2013 : decode cL_law 2013 = .ok (.iload 4, 2) := by decide +kernel
theorem dL_law_2015 : decode cL_law 2015 = .ok (.iconst 1, 1) := by decide +kernel
theorem dL_law_2016 : decode cL_law 2016 = .ok (.iadd, 1) := by decide +kernel
theorem dL_law_2017 : decode cL_law 2017 = .ok (.iaload, 1) := by decide +kernel
theorem dL_law_2018 : decode cL_law 2018 = .ok (.invokevirtual 218, 3) := by decide +kernel
theorem dL_law_2021 : decode cL_law 2021 = .ok (.istore 6, 2) := by decide +kernel
theorem dL_law_2023 : decode cL_law 2023 = .ok (.aload_n 2, 1) := by decide +kernel
theorem dL_law_2024 : decode cL_law 2024 = .ok (.invokevirtual 124, 3) := by decide +kernel
theorem dL_law_2027 : decode cL_law 2027 = .ok (.iload 5, 2) := by decide +kernel
theorem dL_law_2029 : decode cL_law 2029 = .ok (.if_icmp .eq 5, 3) := by decide +kernel
theorem dL_law_2032 : decode cL_law 2032 = .ok (.iconst 0, 1) := by decide +kernel
theorem dL_law_2033 : decode cL_law 2033 = .ok (.ireturn, 1) := by decide +kernel
theorem dL_law_2034 : decode cL_law 2034 = .ok (.iload 5, 2) := by decide +kernel
theorem dL_law_2036 : decode cL_law 2036 = .ok (.ifCond .ne 22, 3) := by decide +kernel
theorem dL_law_2039 : decode cL_law 2039 = .ok (.aload_n 3, 1) := by decide +kernel
theorem dL_law_2040 : decode cL_law 2040 = .ok (.iconst 0, 1) := by decide +kernel
theorem dL_law_2041 : decode cL_law 2041 = .ok (.laload, 1) := by decide +kernel
theorem dL_law_2042 : decode cL_law 2042 = .ok (.iload 6, 2) := by decide +kernel
theorem dL_law_2044 : decode cL_law 2044 = .ok (.ifCond .eq 7, 3) := by decide +kernel
theorem dL_law_2047 : decode cL_law 2047 = .ok (.lconst 1, 1) := by decide +kernel
theorem dL_law_2048 : decode cL_law 2048 = .ok (.goto 4, 3) := by decide +kernel
theorem dL_law_2051 : decode cL_law 2051 = .ok (.lconst 0, 1) := by decide +kernel
theorem dL_law_2052 : decode cL_law 2052 = .ok (.lcmp, 1) := by decide +kernel
theorem dL_law_2053 : decode cL_law 2053 = .ok (.ifCond .eq 5, 3) := by decide +kernel
theorem dL_law_2056 : decode cL_law 2056 = .ok (.iconst 0, 1) := by decide +kernel
theorem dL_law_2057 : decode cL_law 2057 = .ok (.ireturn, 1) := by decide +kernel
theorem dL_law_2058 : decode cL_law 2058 = .ok (.goto 183, 3) := by decide +kernel
theorem dL_law_2061 : decode cL_law 2061 = .ok (.aload_n 1, 1) := by decide +kernel
theorem dL_law_2062 : decode cL_law 2062 = .ok (.aload_n 0, 1) := by decide +kernel
theorem dL_law_2063 : decode cL_law 2063 = .ok (.iload 4, 2) := by decide +kernel
theorem dL_law_2065 : decode cL_law 2065 = .ok (.iconst 1, 1) := by decide +kernel
theorem dL_law_2066 : decode cL_law 2066 = .ok (.iadd, 1) := by decide +kernel
theorem dL_law_2067 : decode cL_law 2067 = .ok (.iaload, 1) := by decide +kernel
theorem dL_law_2068 : decode cL_law 2068 = .ok (.aload_n 3, 1) := by decide +kernel
theorem dL_law_2069 : decode cL_law 2069 = .ok (.invokestatic 219, 3) := by decide +kernel
theorem dL_law_2072 : decode cL_law 2072 = .ok (.istore 5, 2) := by decide +kernel
theorem dL_law_2074 : decode cL_law 2074 = .ok (.aload_n 2, 1) := by decide +kernel
theorem dL_law_2075 : decode cL_law 2075 = .ok (.aload_n 0, 1) := by decide +kernel
theorem dL_law_2076 : decode cL_law 2076 = .ok (.iload 4, 2) := by decide +kernel
theorem dL_law_2078 : decode cL_law 2078 = .ok (.iconst 1, 1) := by decide +kernel
theorem dL_law_2079 : decode cL_law 2079 = .ok (.iadd, 1) := by decide +kernel
theorem dL_law_2080 : decode cL_law 2080 = .ok (.iaload, 1) := by decide +kernel
theorem dL_law_2081 : decode cL_law 2081 = .ok (.invokevirtual 221, 3) := by decide +kernel
theorem dL_law_2084 : decode cL_law 2084 = .ok (.istore 6, 2) := by decide +kernel
theorem dL_law_2086 : decode cL_law 2086 = .ok (.aload_n 2, 1) := by decide +kernel
theorem dL_law_2087 : decode cL_law 2087 = .ok (.invokevirtual 124, 3) := by decide +kernel
theorem dL_law_2090 : decode cL_law 2090 = .ok (.iload 5, 2) := by decide +kernel
theorem dL_law_2092 : decode cL_law 2092 = .ok (.if_icmp .eq 5, 3) := by decide +kernel
theorem dL_law_2095 : decode cL_law 2095 = .ok (.iconst 0, 1) := by decide +kernel
theorem dL_law_2096 : decode cL_law 2096 = .ok (.ireturn, 1) := by decide +kernel
theorem dL_law_2097 : decode cL_law 2097 = .ok (.iload 5, 2) := by decide +kernel
theorem dL_law_2099 : decode cL_law 2099 = .ok (.ifCond .ne 15, 3) := by decide +kernel
theorem dL_law_2102 : decode cL_law 2102 = .ok (.aload_n 3, 1) := by decide +kernel
theorem dL_law_2103 : decode cL_law 2103 = .ok (.iconst 0, 1) := by decide +kernel
theorem dL_law_2104 : decode cL_law 2104 = .ok (.laload, 1) := by decide +kernel
theorem dL_law_2105 : decode cL_law 2105 = .ok (.iload 6, 2) := by decide +kernel
theorem dL_law_2107 : decode cL_law 2107 = .ok (.i2l, 1) := by decide +kernel
theorem dL_law_2108 : decode cL_law 2108 = .ok (.lcmp, 1) := by decide +kernel
theorem dL_law_2109 : decode cL_law 2109 = .ok (.ifCond .eq 5, 3) := by decide +kernel
theorem dL_law_2112 : decode cL_law 2112 = .ok (.iconst 0, 1) := by decide +kernel
theorem dL_law_2113 : decode cL_law 2113 = .ok (.ireturn, 1) := by decide +kernel
theorem dL_law_2114 : decode cL_law 2114 = .ok (.goto 127, 3) := by decide +kernel
theorem dL_law_2117 : decode cL_law 2117 = .ok (.aload_n 1, 1) := by decide +kernel
theorem dL_law_2118 : decode cL_law 2118 = .ok (.aload_n 0, 1) := by decide +kernel
theorem dL_law_2119 : decode cL_law 2119 = .ok (.iload 4, 2) := by decide +kernel
theorem dL_law_2121 : decode cL_law 2121 = .ok (.iconst 1, 1) := by decide +kernel
theorem dL_law_2122 : decode cL_law 2122 = .ok (.iadd, 1) := by decide +kernel
theorem dL_law_2123 : decode cL_law 2123 = .ok (.iaload, 1) := by decide +kernel
theorem dL_law_2124 : decode cL_law 2124 = .ok (.aload_n 3, 1) := by decide +kernel
theorem dL_law_2125 : decode cL_law 2125 = .ok (.invokestatic 222, 3) := by decide +kernel
theorem dL_law_2128 : decode cL_law 2128 = .ok (.istore 5, 2) := by decide +kernel
theorem dL_law_2130 : decode cL_law 2130 = .ok (.aload_n 2, 1) := by decide +kernel
theorem dL_law_2131 : decode cL_law 2131 = .ok (.aload_n 0, 1) := by decide +kernel
theorem dL_law_2132 : decode cL_law 2132 = .ok (.iload 4, 2) := by decide +kernel
theorem dL_law_2134 : decode cL_law 2134 = .ok (.iconst 1, 1) := by decide +kernel
theorem dL_law_2135 : decode cL_law 2135 = .ok (.iadd, 1) := by decide +kernel
theorem dL_law_2136 : decode cL_law 2136 = .ok (.iaload, 1) := by decide +kernel
theorem dL_law_2137 : decode cL_law 2137 = .ok (.invokevirtual 224, 3) := by decide +kernel
theorem dL_law_2140 : decode cL_law 2140 = .ok (.istore 6, 2) := by decide +kernel
theorem dL_law_2142 : decode cL_law 2142 = .ok (.aload_n 2, 1) := by decide +kernel
theorem dL_law_2143 : decode cL_law 2143 = .ok (.invokevirtual 124, 3) := by decide +kernel
theorem dL_law_2146 : decode cL_law 2146 = .ok (.iload 5, 2) := by decide +kernel
theorem dL_law_2148 : decode cL_law 2148 = .ok (.if_icmp .eq 5, 3) := by decide +kernel
theorem dL_law_2151 : decode cL_law 2151 = .ok (.iconst 0, 1) := by decide +kernel
theorem dL_law_2152 : decode cL_law 2152 = .ok (.ireturn, 1) := by decide +kernel
theorem dL_law_2153 : decode cL_law 2153 = .ok (.iload 5, 2) := by decide +kernel
theorem dL_law_2155 : decode cL_law 2155 = .ok (.ifCond .ne 15, 3) := by decide +kernel
theorem dL_law_2158 : decode cL_law 2158 = .ok (.aload_n 3, 1) := by decide +kernel
theorem dL_law_2159 : decode cL_law 2159 = .ok (.iconst 0, 1) := by decide +kernel
theorem dL_law_2160 : decode cL_law 2160 = .ok (.laload, 1) := by decide +kernel
theorem dL_law_2161 : decode cL_law 2161 = .ok (.iload 6, 2) := by decide +kernel
theorem dL_law_2163 : decode cL_law 2163 = .ok (.i2l, 1) := by decide +kernel
theorem dL_law_2164 : decode cL_law 2164 = .ok (.lcmp, 1) := by decide +kernel
theorem dL_law_2165 : decode cL_law 2165 = .ok (.ifCond .eq 5, 3) := by decide +kernel
theorem dL_law_2168 : decode cL_law 2168 = .ok (.iconst 0, 1) := by decide +kernel
theorem dL_law_2169 : decode cL_law 2169 = .ok (.ireturn, 1) := by decide +kernel
theorem dL_law_2170 : decode cL_law 2170 = .ok (.goto 71, 3) := by decide +kernel
theorem dL_law_2173 : decode cL_law 2173 = .ok (.aload_n 1, 1) := by decide +kernel
theorem dL_law_2174 : decode cL_law 2174 = .ok (.aload_n 0, 1) := by decide +kernel
theorem dL_law_2175 : decode cL_law 2175 = .ok (.iload 4, 2) := by decide +kernel
theorem dL_law_2177 : decode cL_law 2177 = .ok (.iconst 1, 1) := by decide +kernel
theorem dL_law_2178 : decode cL_law 2178 = .ok (.iadd, 1) := by decide +kernel
theorem dL_law_2179 : decode cL_law 2179 = .ok (.iaload, 1) := by decide +kernel
theorem dL_law_2180 : decode cL_law 2180 = .ok (.aload_n 0, 1) := by decide +kernel
theorem dL_law_2181 : decode cL_law 2181 = .ok (.iload 4, 2) := by decide +kernel
theorem dL_law_2183 : decode cL_law 2183 = .ok (.iconst 2, 1) := by decide +kernel
theorem dL_law_2184 : decode cL_law 2184 = .ok (.iadd, 1) := by decide +kernel
theorem dL_law_2185 : decode cL_law 2185 = .ok (.iaload, 1) := by decide +kernel
theorem dL_law_2186 : decode cL_law 2186 = .ok (.aload_n 3, 1) := by decide +kernel
theorem dL_law_2187 : decode cL_law 2187 = .ok (.invokestatic 225, 3) := by decide +kernel
theorem dL_law_2190 : decode cL_law 2190 = .ok (.istore 5, 2) := by decide +kernel
theorem dL_law_2192 : decode cL_law 2192 = .ok (.aload_n 2, 1) := by decide +kernel
theorem dL_law_2193 : decode cL_law 2193 = .ok (.aload_n 0, 1) := by decide +kernel
theorem dL_law_2194 : decode cL_law 2194 = .ok (.iload 4, 2) := by decide +kernel
theorem dL_law_2196 : decode cL_law 2196 = .ok (.iconst 1, 1) := by decide +kernel
theorem dL_law_2197 : decode cL_law 2197 = .ok (.iadd, 1) := by decide +kernel
theorem dL_law_2198 : decode cL_law 2198 = .ok (.iaload, 1) := by decide +kernel
theorem dL_law_2199 : decode cL_law 2199 = .ok (.aload_n 0, 1) := by decide +kernel
theorem dL_law_2200 : decode cL_law 2200 = .ok (.iload 4, 2) := by decide +kernel
theorem dL_law_2202 : decode cL_law 2202 = .ok (.iconst 2, 1) := by decide +kernel
theorem dL_law_2203 : decode cL_law 2203 = .ok (.iadd, 1) := by decide +kernel
theorem dL_law_2204 : decode cL_law 2204 = .ok (.iaload, 1) := by decide +kernel
theorem dL_law_2205 : decode cL_law 2205 = .ok (.invokevirtual 227, 3) := by decide +kernel
theorem dL_law_2208 : decode cL_law 2208 = .ok (.istore 6, 2) := by decide +kernel
theorem dL_law_2210 : decode cL_law 2210 = .ok (.aload_n 2, 1) := by decide +kernel
theorem dL_law_2211 : decode cL_law 2211 = .ok (.invokevirtual 124, 3) := by decide +kernel
theorem dL_law_2214 : decode cL_law 2214 = .ok (.iload 5, 2) := by decide +kernel
theorem dL_law_2216 : decode cL_law 2216 = .ok (.if_icmp .eq 5, 3) := by decide +kernel
theorem dL_law_2219 : decode cL_law 2219 = .ok (.iconst 0, 1) := by decide +kernel
theorem dL_law_2220 : decode cL_law 2220 = .ok (.ireturn, 1) := by decide +kernel
theorem dL_law_2221 : decode cL_law 2221 = .ok (.iload 5, 2) := by decide +kernel
theorem dL_law_2223 : decode cL_law 2223 = .ok (.ifCond .ne 15, 3) := by decide +kernel
theorem dL_law_2226 : decode cL_law 2226 = .ok (.aload_n 3, 1) := by decide +kernel
theorem dL_law_2227 : decode cL_law 2227 = .ok (.iconst 0, 1) := by decide +kernel
theorem dL_law_2228 : decode cL_law 2228 = .ok (.laload, 1) := by decide +kernel
theorem dL_law_2229 : decode cL_law 2229 = .ok (.iload 6, 2) := by decide +kernel
theorem dL_law_2231 : decode cL_law 2231 = .ok (.i2l, 1) := by decide +kernel
theorem dL_law_2232 : decode cL_law 2232 = .ok (.lcmp, 1) := by decide +kernel
theorem dL_law_2233 : decode cL_law 2233 = .ok (.ifCond .eq 5, 3) := by decide +kernel
theorem dL_law_2236 : decode cL_law 2236 = .ok (.iconst 0, 1) := by decide +kernel
theorem dL_law_2237 : decode cL_law 2237 = .ok (.ireturn, 1) := by decide +kernel
theorem dL_law_2238 : decode cL_law 2238 = .ok (.goto 3, 3) := by decide +kernel
theorem dL_law_2241 : decode cL_law 2241 = .ok (.iinc 4 5, 3) := by decide +kernel
theorem dL_law_2244 : decode cL_law 2244 = .ok (.goto (-2221), 3) := by decide +kernel
theorem dL_law_2247 : decode cL_law 2247 = .ok (.iconst 1, 1) := by decide +kernel
theorem dL_law_2248 : decode cL_law 2248 = .ok (.ireturn, 1) := by decide +kernel
theorem e_L_law_598 (d : Nat) {k23 : Int → Int → Int → Int → Mem → Option R2} (hk23 : ∀ {l1 l2 l3 l4 : Int} {m : Mem} {v : Int} {m' : Mem}, k23 l1 l2 l3 l4 m = some (v, m') → Ex (d + 47) fm_L_law 23 [(7, 0), (21, l1), (22, l2), (300001, l3), (0, l4), (3, 0), (3, 0)] [] m (.inl (0, v)) m') {l1 l2 l3 l4 s0 s1 : Int} {m : Mem} {v : Int} {m' : Mem} (h : L_law_598 k23 l1 l2 l3 l4 s0 s1 m = some (v, m')) : Ex (d + 47) fm_L_law 598 [(7, 0), (21, l1), (22, l2), (300001, l3), (0, l4), (3, 0), (3, 0)] [(2, s0), (2, s1)] m (.inl (0, v)) m' := by
  unfold L_law_598 at h
  refine x_lcmp dL_law_598 (?_ : Ex _ _ 599 _ _ _ _ _)
  rcases ite_some h with ⟨b1, h⟩ | ⟨b1, h⟩
  · refine x_if_eq (tgt := 604) dL_law_599 rfl b1 (?_ : Ex _ _ 604 _ _ _ _ _)
    refine x_goto (tgt := 2241) dL_law_604 rfl (?_ : Ex _ _ 2241 _ _ _ _ _)
    obtain ⟨c2, h⟩ := chk_some h
    refine x_iinc (ls2 := [(7, 0), (21, l1), (22, l2), (300001, l3), (0, (l4 + 5)), (3, 0), (3, 0)]) dL_law_2241 rfl c2 rfl (?_ : Ex _ _ 2244 _ _ _ _ _)
    refine x_goto (tgt := 23) dL_law_2244 rfl (?_ : Ex _ _ 23 _ _ _ _ _)
    exact hk23 h
  · refine x_if_eqN dL_law_599 (by decide) b1 (?_ : Ex _ _ 602 _ _ _ _ _)
    refine x_iconst dL_law_602 rfl (by decide) (?_ : Ex _ _ 603 _ _ _ _ _)
    cases h
    exact x_ret dL_law_603 (by decide : (0 : Int) ≠ 3)
theorem e_L_law_661 (d : Nat) {k23 : Int → Int → Int → Int → Mem → Option R2} (hk23 : ∀ {l1 l2 l3 l4 : Int} {m : Mem} {v : Int} {m' : Mem}, k23 l1 l2 l3 l4 m = some (v, m') → Ex (d + 47) fm_L_law 23 [(7, 0), (21, l1), (22, l2), (300001, l3), (0, l4), (3, 0), (3, 0)] [] m (.inl (0, v)) m') {l1 l2 l3 l4 s0 s1 : Int} {m : Mem} {v : Int} {m' : Mem} (h : L_law_661 k23 l1 l2 l3 l4 s0 s1 m = some (v, m')) : Ex (d + 47) fm_L_law 661 [(7, 0), (21, l1), (22, l2), (300001, l3), (0, l4), (3, 0), (3, 0)] [(2, s0), (2, s1)] m (.inl (0, v)) m' := by
  unfold L_law_661 at h
  refine x_lcmp dL_law_661 (?_ : Ex _ _ 662 _ _ _ _ _)
  rcases ite_some h with ⟨b1, h⟩ | ⟨b1, h⟩
  · refine x_if_eq (tgt := 667) dL_law_662 rfl b1 (?_ : Ex _ _ 667 _ _ _ _ _)
    refine x_goto (tgt := 2241) dL_law_667 rfl (?_ : Ex _ _ 2241 _ _ _ _ _)
    obtain ⟨c2, h⟩ := chk_some h
    refine x_iinc (ls2 := [(7, 0), (21, l1), (22, l2), (300001, l3), (0, (l4 + 5)), (3, 0), (3, 0)]) dL_law_2241 rfl c2 rfl (?_ : Ex _ _ 2244 _ _ _ _ _)
    refine x_goto (tgt := 23) dL_law_2244 rfl (?_ : Ex _ _ 23 _ _ _ _ _)
    exact hk23 h
  · refine x_if_eqN dL_law_662 (by decide) b1 (?_ : Ex _ _ 665 _ _ _ _ _)
    refine x_iconst dL_law_665 rfl (by decide) (?_ : Ex _ _ 666 _ _ _ _ _)
    cases h
    exact x_ret dL_law_666 (by decide : (0 : Int) ≠ 3)
theorem e_L_law_1052 (d : Nat) {k23 : Int → Int → Int → Int → Mem → Option R2} (hk23 : ∀ {l1 l2 l3 l4 : Int} {m : Mem} {v : Int} {m' : Mem}, k23 l1 l2 l3 l4 m = some (v, m') → Ex (d + 47) fm_L_law 23 [(7, 0), (21, l1), (22, l2), (300001, l3), (0, l4), (3, 0), (3, 0)] [] m (.inl (0, v)) m') {l1 l2 l3 l4 s0 s1 : Int} {m : Mem} {v : Int} {m' : Mem} (h : L_law_1052 k23 l1 l2 l3 l4 s0 s1 m = some (v, m')) : Ex (d + 47) fm_L_law 1052 [(7, 0), (21, l1), (22, l2), (300001, l3), (0, l4), (3, 0), (3, 0)] [(2, s0), (2, s1)] m (.inl (0, v)) m' := by
  unfold L_law_1052 at h
  refine x_lcmp dL_law_1052 (?_ : Ex _ _ 1053 _ _ _ _ _)
  rcases ite_some h with ⟨b1, h⟩ | ⟨b1, h⟩
  · refine x_if_eq (tgt := 1058) dL_law_1053 rfl b1 (?_ : Ex _ _ 1058 _ _ _ _ _)
    refine x_goto (tgt := 2241) dL_law_1058 rfl (?_ : Ex _ _ 2241 _ _ _ _ _)
    obtain ⟨c2, h⟩ := chk_some h
    refine x_iinc (ls2 := [(7, 0), (21, l1), (22, l2), (300001, l3), (0, (l4 + 5)), (3, 0), (3, 0)]) dL_law_2241 rfl c2 rfl (?_ : Ex _ _ 2244 _ _ _ _ _)
    refine x_goto (tgt := 23) dL_law_2244 rfl (?_ : Ex _ _ 23 _ _ _ _ _)
    exact hk23 h
  · refine x_if_eqN dL_law_1053 (by decide) b1 (?_ : Ex _ _ 1056 _ _ _ _ _)
    refine x_iconst dL_law_1056 rfl (by decide) (?_ : Ex _ _ 1057 _ _ _ _ _)
    cases h
    exact x_ret dL_law_1057 (by decide : (0 : Int) ≠ 3)
theorem e_L_law_1199 (d : Nat) {k23 : Int → Int → Int → Int → Mem → Option R2} (hk23 : ∀ {l1 l2 l3 l4 : Int} {m : Mem} {v : Int} {m' : Mem}, k23 l1 l2 l3 l4 m = some (v, m') → Ex (d + 47) fm_L_law 23 [(7, 0), (21, l1), (22, l2), (300001, l3), (0, l4), (3, 0), (3, 0)] [] m (.inl (0, v)) m') {l1 l2 l3 l4 s0 s1 : Int} {m : Mem} {v : Int} {m' : Mem} (h : L_law_1199 k23 l1 l2 l3 l4 s0 s1 m = some (v, m')) : Ex (d + 47) fm_L_law 1199 [(7, 0), (21, l1), (22, l2), (300001, l3), (0, l4), (3, 0), (3, 0)] [(2, s0), (2, s1)] m (.inl (0, v)) m' := by
  unfold L_law_1199 at h
  refine x_lcmp dL_law_1199 (?_ : Ex _ _ 1200 _ _ _ _ _)
  rcases ite_some h with ⟨b1, h⟩ | ⟨b1, h⟩
  · refine x_if_eq (tgt := 1205) dL_law_1200 rfl b1 (?_ : Ex _ _ 1205 _ _ _ _ _)
    refine x_goto (tgt := 2241) dL_law_1205 rfl (?_ : Ex _ _ 2241 _ _ _ _ _)
    obtain ⟨c2, h⟩ := chk_some h
    refine x_iinc (ls2 := [(7, 0), (21, l1), (22, l2), (300001, l3), (0, (l4 + 5)), (3, 0), (3, 0)]) dL_law_2241 rfl c2 rfl (?_ : Ex _ _ 2244 _ _ _ _ _)
    refine x_goto (tgt := 23) dL_law_2244 rfl (?_ : Ex _ _ 23 _ _ _ _ _)
    exact hk23 h
  · refine x_if_eqN dL_law_1200 (by decide) b1 (?_ : Ex _ _ 1203 _ _ _ _ _)
    refine x_iconst dL_law_1203 rfl (by decide) (?_ : Ex _ _ 1204 _ _ _ _ _)
    cases h
    exact x_ret dL_law_1204 (by decide : (0 : Int) ≠ 3)
theorem e_L_law_1165 (d : Nat) {k23 : Int → Int → Int → Int → Mem → Option R2} (hk23 : ∀ {l1 l2 l3 l4 : Int} {m : Mem} {v : Int} {m' : Mem}, k23 l1 l2 l3 l4 m = some (v, m') → Ex (d + 47) fm_L_law 23 [(7, 0), (21, l1), (22, l2), (300001, l3), (0, l4), (3, 0), (3, 0)] [] m (.inl (0, v)) m') {l1 l2 l3 l4 l5 s0 s1 s2 : Int} {m : Mem} {v : Int} {m' : Mem} (h : L_law_1165 k23 l1 l2 l3 l4 l5 s0 s1 s2 m = some (v, m')) : Ex (d + 47) fm_L_law 1165 [(7, 0), (21, l1), (22, l2), (300001, l3), (0, l4), (0, l5), (3, 0)] [(0, s0), (0, s1), (22, s2)] m (.inl (0, v)) m' := by
  unfold L_law_1165 at h
  obtain ⟨c1, h⟩ := chk_some h
  obtain ⟨v2, m3, g4, h⟩ := cal_some h
  refine cV2 (e_X12_run (d + 44) g4) (contN (by decide) (?_ : Ex _ _ 1168 _ _ _ _ _)) og_X12_run rfl ml_RL_173 12 rfl rfl c1 im_X12_run se_X12_run (Nat.le_of_ble_eq_true rfl) dL_law_1165
  refine x_istore (ls2 := [(7, 0), (21, l1), (22, l2), (300001, l3), (0, l4), (0, l5), (0, v2)]) dL_law_1168 (Nat.le_of_ble_eq_true rfl) rfl (?_ : Ex _ _ 1170 _ _ _ _ _)
  refine x_aload_n dL_law_1170 rfl rfl (Or.inr (by decide)) (?_ : Ex _ _ 1171 _ _ _ _ _)
  obtain ⟨c5, h⟩ := chk_some h
  obtain ⟨v6, m7, g8, h⟩ := cal_some h
  refine cV0 (e_X12_thrown (d + 46) g8) (contN (by decide) (?_ : Ex _ _ 1174 _ _ _ _ _)) og_X12_thrown rfl ml_RL_124 12 rfl rfl c5 im_X12_thrown se_X12_thrown (Nat.le_of_ble_eq_true rfl) dL_law_1171
  refine x_iload dL_law_1174 rfl (?_ : Ex _ _ 1176 _ _ _ _ _)
  rcases ite_some h with ⟨b9, h⟩ | ⟨b9, h⟩
  · refine x_icmp_eq (tgt := 1181) dL_law_1176 rfl b9 (?_ : Ex _ _ 1181 _ _ _ _ _)
    refine x_iload dL_law_1181 rfl (?_ : Ex _ _ 1183 _ _ _ _ _)
    rcases ite_some h with ⟨b10, h⟩ | ⟨b10, h⟩
    · refine x_if_neN dL_law_1183 (by decide) (fun hh => hh b10) (?_ : Ex _ _ 1186 _ _ _ _ _)
      refine x_aload_n dL_law_1186 rfl rfl (Or.inr (by decide)) (?_ : Ex _ _ 1187 _ _ _ _ _)
      refine x_iconst dL_law_1187 rfl (by decide) (?_ : Ex _ _ 1188 _ _ _ _ _)
      obtain ⟨c12, h⟩ := chk_some h
      refine ld_l_1 c12 (by decide) (by decide) dL_law_1188 (?_ : Ex _ _ 1189 _ _ _ _ _)
      refine x_iload dL_law_1189 rfl (?_ : Ex _ _ 1191 _ _ _ _ _)
      rcases ite_some h with ⟨b13, h⟩ | ⟨b13, h⟩
      · refine x_if_eq (tgt := 1198) dL_law_1191 rfl b13 (?_ : Ex _ _ 1198 _ _ _ _ _)
        refine x_lconst dL_law_1198 kl_0 (by decide) (?_ : Ex _ _ 1199 _ _ _ _ _)
        refine Ex.wk (ls2 := [(7, 0), (21, l1), (22, l2), (300001, l3), (0, l4), (3, 0), (3, 0)]) ⟨Or.inr rfl, Or.inr rfl, Or.inr rfl, Or.inr rfl, Or.inr rfl, Or.inl rfl, Or.inl rfl, trivial⟩ ?_
        exact e_L_law_1199 d hk23 h
      · refine x_if_eqN dL_law_1191 (by decide) b13 (?_ : Ex _ _ 1194 _ _ _ _ _)
        refine x_lconst dL_law_1194 kl_1 (by decide) (?_ : Ex _ _ 1195 _ _ _ _ _)
        refine x_goto (tgt := 1199) dL_law_1195 rfl (?_ : Ex _ _ 1199 _ _ _ _ _)
        refine Ex.wk (ls2 := [(7, 0), (21, l1), (22, l2), (300001, l3), (0, l4), (3, 0), (3, 0)]) ⟨Or.inr rfl, Or.inr rfl, Or.inr rfl, Or.inr rfl, Or.inr rfl, Or.inl rfl, Or.inl rfl, trivial⟩ ?_
        exact e_L_law_1199 d hk23 h
    · refine x_if_ne (tgt := 1205) dL_law_1183 rfl b10 (?_ : Ex _ _ 1205 _ _ _ _ _)
      refine x_goto (tgt := 2241) dL_law_1205 rfl (?_ : Ex _ _ 2241 _ _ _ _ _)
      obtain ⟨c11, h⟩ := chk_some h
      refine x_iinc (ls2 := [(7, 0), (21, l1), (22, l2), (300001, l3), (0, (l4 + 5)), (0, l5), (0, v2)]) dL_law_2241 rfl c11 rfl (?_ : Ex _ _ 2244 _ _ _ _ _)
      refine x_goto (tgt := 23) dL_law_2244 rfl (?_ : Ex _ _ 23 _ _ _ _ _)
      refine Ex.wk (ls2 := [(7, 0), (21, l1), (22, l2), (300001, l3), (0, (l4 + 5)), (3, 0), (3, 0)]) ⟨Or.inr rfl, Or.inr rfl, Or.inr rfl, Or.inr rfl, Or.inr rfl, Or.inl rfl, Or.inl rfl, trivial⟩ ?_
      exact hk23 h
  · refine x_icmp_eqN dL_law_1176 (by decide) b9 (?_ : Ex _ _ 1179 _ _ _ _ _)
    refine x_iconst dL_law_1179 rfl (by decide) (?_ : Ex _ _ 1180 _ _ _ _ _)
    cases h
    exact x_ret dL_law_1180 (by decide : (0 : Int) ≠ 3)
theorem e_L_law_1138 (d : Nat) {k23 : Int → Int → Int → Int → Mem → Option R2} (hk23 : ∀ {l1 l2 l3 l4 : Int} {m : Mem} {v : Int} {m' : Mem}, k23 l1 l2 l3 l4 m = some (v, m') → Ex (d + 47) fm_L_law 23 [(7, 0), (21, l1), (22, l2), (300001, l3), (0, l4), (3, 0), (3, 0)] [] m (.inl (0, v)) m') {l1 l2 l3 l4 s0 s1 s2 : Int} {m : Mem} {v : Int} {m' : Mem} (h : L_law_1138 k23 l1 l2 l3 l4 s0 s1 s2 m = some (v, m')) : Ex (d + 47) fm_L_law 1138 [(7, 0), (21, l1), (22, l2), (300001, l3), (0, l4), (3, 0), (3, 0)] [(0, s0), (0, s1), (21, s2)] m (.inl (0, v)) m' := by
  unfold L_law_1138 at h
  refine x_aload_n dL_law_1138 rfl rfl (Or.inr (by decide)) (?_ : Ex _ _ 1139 _ _ _ _ _)
  obtain ⟨v1, m2, g3, h⟩ := cal_some h
  refine cW4 (e_L_run (d + 43) g3) (by decide) (?_ : Ex _ _ 1142 _ _ _ _ _) og_L_run (List.cons_ne_nil _ _) ml_RL_170 sm_L_run (Nat.le_of_ble_eq_true rfl) dL_law_1139
  refine x_istore (ls2 := [(7, 0), (21, l1), (22, l2), (300001, l3), (0, l4), (0, v1), (3, 0)]) dL_law_1142 (Nat.le_of_ble_eq_true rfl) rfl (?_ : Ex _ _ 1144 _ _ _ _ _)
  refine x_aload_n dL_law_1144 rfl rfl (Or.inr (by decide)) (?_ : Ex _ _ 1145 _ _ _ _ _)
  refine x_aload_n dL_law_1145 rfl rfl (Or.inl rfl) (?_ : Ex _ _ 1146 _ _ _ _ _)
  refine x_iload dL_law_1146 rfl (?_ : Ex _ _ 1148 _ _ _ _ _)
  refine x_iconst dL_law_1148 rfl (by decide) (?_ : Ex _ _ 1149 _ _ _ _ _)
  obtain ⟨c4, h⟩ := chk_some h
  refine x_iadd dL_law_1149 c4 (?_ : Ex _ _ 1150 _ _ _ _ _)
  obtain ⟨⟨c5, c6, c7⟩, h⟩ := chk_some h
  refine x_sld c5 c6 c7 dL_law_1150 (?_ : Ex _ _ 1151 _ _ _ _ _)
  refine x_aload_n dL_law_1151 rfl rfl (Or.inl rfl) (?_ : Ex _ _ 1152 _ _ _ _ _)
  refine x_iload dL_law_1152 rfl (?_ : Ex _ _ 1154 _ _ _ _ _)
  refine x_iconst dL_law_1154 rfl (by decide) (?_ : Ex _ _ 1155 _ _ _ _ _)
  obtain ⟨c8, h⟩ := chk_some h
  refine x_iadd dL_law_1155 c8 (?_ : Ex _ _ 1156 _ _ _ _ _)
  obtain ⟨⟨c9, c10, c11⟩, h⟩ := chk_some h
  refine x_sld c9 c10 c11 dL_law_1156 (?_ : Ex _ _ 1157 _ _ _ _ _)
  rcases ite_some h with ⟨b12, h⟩ | ⟨b12, h⟩
  · refine x_if_eq (tgt := 1164) dL_law_1157 rfl b12 (?_ : Ex _ _ 1164 _ _ _ _ _)
    refine x_iconst dL_law_1164 rfl (by decide) (?_ : Ex _ _ 1165 _ _ _ _ _)
    exact e_L_law_1165 d hk23 h
  · refine x_if_eqN dL_law_1157 (by decide) b12 (?_ : Ex _ _ 1160 _ _ _ _ _)
    refine x_iconst dL_law_1160 rfl (by decide) (?_ : Ex _ _ 1161 _ _ _ _ _)
    refine x_goto (tgt := 1165) dL_law_1161 rfl (?_ : Ex _ _ 1165 _ _ _ _ _)
    exact e_L_law_1165 d hk23 h
theorem e_L_law_1814 (d : Nat) {k23 : Int → Int → Int → Int → Mem → Option R2} (hk23 : ∀ {l1 l2 l3 l4 : Int} {m : Mem} {v : Int} {m' : Mem}, k23 l1 l2 l3 l4 m = some (v, m') → Ex (d + 47) fm_L_law 23 [(7, 0), (21, l1), (22, l2), (300001, l3), (0, l4), (3, 0), (3, 0)] [] m (.inl (0, v)) m') {l1 l2 l3 l4 l5 s0 s1 s2 s3 s4 : Int} {m : Mem} {v : Int} {m' : Mem} (h : L_law_1814 k23 l1 l2 l3 l4 l5 s0 s1 s2 s3 s4 m = some (v, m')) : Ex (d + 47) fm_L_law 1814 [(7, 0), (21, l1), (22, l2), (300001, l3), (0, l4), (0, l5), (3, 0)] [(0, s0), (0, s1), (0, s2), (0, s3), (22, s4)] m (.inl (0, v)) m' := by
  unfold L_law_1814 at h
  obtain ⟨c1, h⟩ := chk_some h
  obtain ⟨v2, m3, g4, h⟩ := cal_some h
  refine cV4 (e_X12_eventNumber (d + 42) g4) (contN (by decide) (?_ : Ex _ _ 1817 _ _ _ _ _)) og_X12_eventNumber rfl ml_RL_209 12 rfl rfl c1 im_X12_eventNumber se_X12_eventNumber (Nat.le_of_ble_eq_true rfl) dL_law_1814
  refine x_istore (ls2 := [(7, 0), (21, l1), (22, l2), (300001, l3), (0, l4), (0, l5), (0, v2)]) dL_law_1817 (Nat.le_of_ble_eq_true rfl) rfl (?_ : Ex _ _ 1819 _ _ _ _ _)
  refine x_aload_n dL_law_1819 rfl rfl (Or.inr (by decide)) (?_ : Ex _ _ 1820 _ _ _ _ _)
  obtain ⟨c5, h⟩ := chk_some h
  obtain ⟨v6, m7, g8, h⟩ := cal_some h
  refine cV0 (e_X12_thrown (d + 46) g8) (contN (by decide) (?_ : Ex _ _ 1823 _ _ _ _ _)) og_X12_thrown rfl ml_RL_124 12 rfl rfl c5 im_X12_thrown se_X12_thrown (Nat.le_of_ble_eq_true rfl) dL_law_1820
  refine x_iload dL_law_1823 rfl (?_ : Ex _ _ 1825 _ _ _ _ _)
  rcases ite_some h with ⟨b9, h⟩ | ⟨b9, h⟩
  · refine x_icmp_eq (tgt := 1830) dL_law_1825 rfl b9 (?_ : Ex _ _ 1830 _ _ _ _ _)
    refine x_iload dL_law_1830 rfl (?_ : Ex _ _ 1832 _ _ _ _ _)
    rcases ite_some h with ⟨b10, h⟩ | ⟨b10, h⟩
    · refine x_if_neN dL_law_1832 (by decide) (fun hh => hh b10) (?_ : Ex _ _ 1835 _ _ _ _ _)
      refine x_aload_n dL_law_1835 rfl rfl (Or.inr (by decide)) (?_ : Ex _ _ 1836 _ _ _ _ _)
      refine x_iconst dL_law_1836 rfl (by decide) (?_ : Ex _ _ 1837 _ _ _ _ _)
      obtain ⟨c12, h⟩ := chk_some h
      refine ld_l_1 c12 (by decide) (by decide) dL_law_1837 (?_ : Ex _ _ 1838 _ _ _ _ _)
      refine x_iload dL_law_1838 rfl (?_ : Ex _ _ 1840 _ _ _ _ _)
      refine x_i2l dL_law_1840 (?_ : Ex _ _ 1841 _ _ _ _ _)
      refine x_lcmp dL_law_1841 (?_ : Ex _ _ 1842 _ _ _ _ _)
      rcases ite_some h with ⟨b13, h⟩ | ⟨b13, h⟩
      · refine x_if_eq (tgt := 1847) dL_law_1842 rfl b13 (?_ : Ex _ _ 1847 _ _ _ _ _)
        refine x_goto (tgt := 2241) dL_law_1847 rfl (?_ : Ex _ _ 2241 _ _ _ _ _)
        obtain ⟨c14, h⟩ := chk_some h
        refine x_iinc (ls2 := [(7, 0), (21, l1), (22, l2), (300001, l3), (0, (l4 + 5)), (0, l5), (0, v2)]) dL_law_2241 rfl c14 rfl (?_ : Ex _ _ 2244 _ _ _ _ _)
        refine x_goto (tgt := 23) dL_law_2244 rfl (?_ : Ex _ _ 23 _ _ _ _ _)
        refine Ex.wk (ls2 := [(7, 0), (21, l1), (22, l2), (300001, l3), (0, (l4 + 5)), (3, 0), (3, 0)]) ⟨Or.inr rfl, Or.inr rfl, Or.inr rfl, Or.inr rfl, Or.inr rfl, Or.inl rfl, Or.inl rfl, trivial⟩ ?_
        exact hk23 h
      · refine x_if_eqN dL_law_1842 (by decide) b13 (?_ : Ex _ _ 1845 _ _ _ _ _)
        refine x_iconst dL_law_1845 rfl (by decide) (?_ : Ex _ _ 1846 _ _ _ _ _)
        cases h
        exact x_ret dL_law_1846 (by decide : (0 : Int) ≠ 3)
    · refine x_if_ne (tgt := 1847) dL_law_1832 rfl b10 (?_ : Ex _ _ 1847 _ _ _ _ _)
      refine x_goto (tgt := 2241) dL_law_1847 rfl (?_ : Ex _ _ 2241 _ _ _ _ _)
      obtain ⟨c11, h⟩ := chk_some h
      refine x_iinc (ls2 := [(7, 0), (21, l1), (22, l2), (300001, l3), (0, (l4 + 5)), (0, l5), (0, v2)]) dL_law_2241 rfl c11 rfl (?_ : Ex _ _ 2244 _ _ _ _ _)
      refine x_goto (tgt := 23) dL_law_2244 rfl (?_ : Ex _ _ 23 _ _ _ _ _)
      refine Ex.wk (ls2 := [(7, 0), (21, l1), (22, l2), (300001, l3), (0, (l4 + 5)), (3, 0), (3, 0)]) ⟨Or.inr rfl, Or.inr rfl, Or.inr rfl, Or.inr rfl, Or.inr rfl, Or.inl rfl, Or.inl rfl, trivial⟩ ?_
      exact hk23 h
  · refine x_icmp_eqN dL_law_1825 (by decide) b9 (?_ : Ex _ _ 1828 _ _ _ _ _)
    refine x_iconst dL_law_1828 rfl (by decide) (?_ : Ex _ _ 1829 _ _ _ _ _)
    cases h
    exact x_ret dL_law_1829 (by decide : (0 : Int) ≠ 3)
theorem e_L_law_1775 (d : Nat) {k23 : Int → Int → Int → Int → Mem → Option R2} (hk23 : ∀ {l1 l2 l3 l4 : Int} {m : Mem} {v : Int} {m' : Mem}, k23 l1 l2 l3 l4 m = some (v, m') → Ex (d + 47) fm_L_law 23 [(7, 0), (21, l1), (22, l2), (300001, l3), (0, l4), (3, 0), (3, 0)] [] m (.inl (0, v)) m') {l1 l2 l3 l4 s0 s1 s2 s3 s4 : Int} {m : Mem} {v : Int} {m' : Mem} (h : L_law_1775 k23 l1 l2 l3 l4 s0 s1 s2 s3 s4 m = some (v, m')) : Ex (d + 47) fm_L_law 1775 [(7, 0), (21, l1), (22, l2), (300001, l3), (0, l4), (3, 0), (3, 0)] [(0, s0), (0, s1), (0, s2), (0, s3), (21, s4)] m (.inl (0, v)) m' := by
  unfold L_law_1775 at h
  refine x_aload_n dL_law_1775 rfl rfl (Or.inr (by decide)) (?_ : Ex _ _ 1776 _ _ _ _ _)
  obtain ⟨v1, m2, g3, h⟩ := cal_some h
  refine cW6 (e_L_eventNumber (d + 41) g3) (by decide) (?_ : Ex _ _ 1779 _ _ _ _ _) og_L_eventNumber (List.cons_ne_nil _ _) ml_RL_206 sm_L_eventNumber (Nat.le_of_ble_eq_true rfl) dL_law_1776
  refine x_istore (ls2 := [(7, 0), (21, l1), (22, l2), (300001, l3), (0, l4), (0, v1), (3, 0)]) dL_law_1779 (Nat.le_of_ble_eq_true rfl) rfl (?_ : Ex _ _ 1781 _ _ _ _ _)
  refine x_aload_n dL_law_1781 rfl rfl (Or.inr (by decide)) (?_ : Ex _ _ 1782 _ _ _ _ _)
  refine x_aload_n dL_law_1782 rfl rfl (Or.inl rfl) (?_ : Ex _ _ 1783 _ _ _ _ _)
  refine x_iload dL_law_1783 rfl (?_ : Ex _ _ 1785 _ _ _ _ _)
  refine x_iconst dL_law_1785 rfl (by decide) (?_ : Ex _ _ 1786 _ _ _ _ _)
  obtain ⟨c4, h⟩ := chk_some h
  refine x_iadd dL_law_1786 c4 (?_ : Ex _ _ 1787 _ _ _ _ _)
  obtain ⟨⟨c5, c6, c7⟩, h⟩ := chk_some h
  refine x_sld c5 c6 c7 dL_law_1787 (?_ : Ex _ _ 1788 _ _ _ _ _)
  refine x_aload_n dL_law_1788 rfl rfl (Or.inl rfl) (?_ : Ex _ _ 1789 _ _ _ _ _)
  refine x_iload dL_law_1789 rfl (?_ : Ex _ _ 1791 _ _ _ _ _)
  refine x_iconst dL_law_1791 rfl (by decide) (?_ : Ex _ _ 1792 _ _ _ _ _)
  obtain ⟨c8, h⟩ := chk_some h
  refine x_iadd dL_law_1792 c8 (?_ : Ex _ _ 1793 _ _ _ _ _)
  obtain ⟨⟨c9, c10, c11⟩, h⟩ := chk_some h
  refine x_sld c9 c10 c11 dL_law_1793 (?_ : Ex _ _ 1794 _ _ _ _ _)
  refine x_aload_n dL_law_1794 rfl rfl (Or.inl rfl) (?_ : Ex _ _ 1795 _ _ _ _ _)
  refine x_iload dL_law_1795 rfl (?_ : Ex _ _ 1797 _ _ _ _ _)
  refine x_iconst dL_law_1797 rfl (by decide) (?_ : Ex _ _ 1798 _ _ _ _ _)
  obtain ⟨c12, h⟩ := chk_some h
  refine x_iadd dL_law_1798 c12 (?_ : Ex _ _ 1799 _ _ _ _ _)
  obtain ⟨⟨c13, c14, c15⟩, h⟩ := chk_some h
  refine x_sld c13 c14 c15 dL_law_1799 (?_ : Ex _ _ 1800 _ _ _ _ _)
  refine x_aload_n dL_law_1800 rfl rfl (Or.inl rfl) (?_ : Ex _ _ 1801 _ _ _ _ _)
  refine x_iload dL_law_1801 rfl (?_ : Ex _ _ 1803 _ _ _ _ _)
  refine x_iconst dL_law_1803 rfl (by decide) (?_ : Ex _ _ 1804 _ _ _ _ _)
  obtain ⟨c16, h⟩ := chk_some h
  refine x_iadd dL_law_1804 c16 (?_ : Ex _ _ 1805 _ _ _ _ _)
  obtain ⟨⟨c17, c18, c19⟩, h⟩ := chk_some h
  refine x_sld c17 c18 c19 dL_law_1805 (?_ : Ex _ _ 1806 _ _ _ _ _)
  rcases ite_some h with ⟨b20, h⟩ | ⟨b20, h⟩
  · refine x_if_eq (tgt := 1813) dL_law_1806 rfl b20 (?_ : Ex _ _ 1813 _ _ _ _ _)
    refine x_iconst dL_law_1813 rfl (by decide) (?_ : Ex _ _ 1814 _ _ _ _ _)
    exact e_L_law_1814 d hk23 h
  · refine x_if_eqN dL_law_1806 (by decide) b20 (?_ : Ex _ _ 1809 _ _ _ _ _)
    refine x_iconst dL_law_1809 rfl (by decide) (?_ : Ex _ _ 1810 _ _ _ _ _)
    refine x_goto (tgt := 1814) dL_law_1810 rfl (?_ : Ex _ _ 1814 _ _ _ _ _)
    exact e_L_law_1814 d hk23 h
theorem e_L_law_2052 (d : Nat) {k23 : Int → Int → Int → Int → Mem → Option R2} (hk23 : ∀ {l1 l2 l3 l4 : Int} {m : Mem} {v : Int} {m' : Mem}, k23 l1 l2 l3 l4 m = some (v, m') → Ex (d + 47) fm_L_law 23 [(7, 0), (21, l1), (22, l2), (300001, l3), (0, l4), (3, 0), (3, 0)] [] m (.inl (0, v)) m') {l1 l2 l3 l4 s0 s1 : Int} {m : Mem} {v : Int} {m' : Mem} (h : L_law_2052 k23 l1 l2 l3 l4 s0 s1 m = some (v, m')) : Ex (d + 47) fm_L_law 2052 [(7, 0), (21, l1), (22, l2), (300001, l3), (0, l4), (3, 0), (3, 0)] [(2, s0), (2, s1)] m (.inl (0, v)) m' := by
  unfold L_law_2052 at h
  refine x_lcmp dL_law_2052 (?_ : Ex _ _ 2053 _ _ _ _ _)
  rcases ite_some h with ⟨b1, h⟩ | ⟨b1, h⟩
  · refine x_if_eq (tgt := 2058) dL_law_2053 rfl b1 (?_ : Ex _ _ 2058 _ _ _ _ _)
    refine x_goto (tgt := 2241) dL_law_2058 rfl (?_ : Ex _ _ 2241 _ _ _ _ _)
    obtain ⟨c2, h⟩ := chk_some h
    refine x_iinc (ls2 := [(7, 0), (21, l1), (22, l2), (300001, l3), (0, (l4 + 5)), (3, 0), (3, 0)]) dL_law_2241 rfl c2 rfl (?_ : Ex _ _ 2244 _ _ _ _ _)
    refine x_goto (tgt := 23) dL_law_2244 rfl (?_ : Ex _ _ 23 _ _ _ _ _)
    exact hk23 h
  · refine x_if_eqN dL_law_2053 (by decide) b1 (?_ : Ex _ _ 2056 _ _ _ _ _)
    refine x_iconst dL_law_2056 rfl (by decide) (?_ : Ex _ _ 2057 _ _ _ _ _)
    cases h
    exact x_ret dL_law_2057 (by decide : (0 : Int) ≠ 3)
theorem e_L_law_23 (d : Nat) : ∀ (n : Nat) {l1 l2 l3 l4 : Int} {m : Mem} {v : Int} {m' : Mem}, L_law_23 n l1 l2 l3 l4 m = some (v, m') → Ex (d + 47) fm_L_law 23 [(7, 0), (21, l1), (22, l2), (300001, l3), (0, l4), (3, 0), (3, 0)] [] m (.inl (0, v)) m' := by
  intro n
  induction n with
  | zero =>
    intro l1 l2 l3 l4 m v m' h
    have h : (none : Option R2) = some _ := h
    cases h
  | succ n ih =>
    intro l1 l2 l3 l4 m v m' h
    rw [L_law_23] at h
    refine x_iload dL_law_23 rfl (?_ : Ex _ _ 25 _ _ _ _ _)
    refine x_aload_n dL_law_25 rfl rfl (Or.inl rfl) (?_ : Ex _ _ 26 _ _ _ _ _)
    obtain ⟨c1, h⟩ := chk_some h
    refine x_slen c1 dL_law_26 (?_ : Ex _ _ 27 _ _ _ _ _)
    refine x_iconst dL_law_27 rfl (by decide) (?_ : Ex _ _ 28 _ _ _ _ _)
    obtain ⟨c2, h⟩ := chk_some h
    refine x_isub dL_law_28 c2 (?_ : Ex _ _ 29 _ _ _ _ _)
    rcases ite_some h with ⟨b3, h⟩ | ⟨b3, h⟩
    · refine x_icmp_gt (tgt := 2247) dL_law_29 rfl b3 (?_ : Ex _ _ 2247 _ _ _ _ _)
      refine x_iconst dL_law_2247 rfl (by decide) (?_ : Ex _ _ 2248 _ _ _ _ _)
      cases h
      exact x_ret dL_law_2248 (by decide : (0 : Int) ≠ 3)
    · refine x_icmp_gtN dL_law_29 (by decide) b3 (?_ : Ex _ _ 32 _ _ _ _ _)
      refine x_aload_n dL_law_32 rfl rfl (Or.inl rfl) (?_ : Ex _ _ 33 _ _ _ _ _)
      refine x_iload dL_law_33 rfl (?_ : Ex _ _ 35 _ _ _ _ _)
      obtain ⟨⟨c4, c5, c6⟩, h⟩ := chk_some h
      refine x_sld c4 c5 c6 dL_law_35 (?_ : Ex _ _ 36 _ _ _ _ _)
      refine x_bipush dL_law_36 kb_31 (by decide) (?_ : Ex _ _ 38 _ _ _ _ _)
      refine x_iand dL_law_38 (?_ : Ex _ _ 39 _ _ _ _ _)
      rcases ite_some h with ⟨b7, h⟩ | ⟨b7, h⟩
      · refine y_tableAt (j := 0) (off := 141) (tgt := 180) b7 dL_law_39 (by decide) (by decide) rfl rfl (?_ : Ex _ _ 180 _ _ _ _ _)
        refine x_aload_n dL_law_180 rfl rfl (Or.inr (by decide)) (?_ : Ex _ _ 181 _ _ _ _ _)
        refine x_aload_n dL_law_181 rfl rfl (Or.inl rfl) (?_ : Ex _ _ 182 _ _ _ _ _)
        refine x_iload dL_law_182 rfl (?_ : Ex _ _ 184 _ _ _ _ _)
        refine x_iconst dL_law_184 rfl (by decide) (?_ : Ex _ _ 185 _ _ _ _ _)
        obtain ⟨c8, h⟩ := chk_some h
        refine x_iadd dL_law_185 c8 (?_ : Ex _ _ 186 _ _ _ _ _)
        obtain ⟨⟨c9, c10, c11⟩, h⟩ := chk_some h
        refine x_sld c9 c10 c11 dL_law_186 (?_ : Ex _ _ 187 _ _ _ _ _)
        refine x_aload_n dL_law_187 rfl rfl (Or.inl rfl) (?_ : Ex _ _ 188 _ _ _ _ _)
        refine x_iload dL_law_188 rfl (?_ : Ex _ _ 190 _ _ _ _ _)
        refine x_iconst dL_law_190 rfl (by decide) (?_ : Ex _ _ 191 _ _ _ _ _)
        obtain ⟨c12, h⟩ := chk_some h
        refine x_iadd dL_law_191 c12 (?_ : Ex _ _ 192 _ _ _ _ _)
        obtain ⟨⟨c13, c14, c15⟩, h⟩ := chk_some h
        refine x_sld c13 c14 c15 dL_law_192 (?_ : Ex _ _ 193 _ _ _ _ _)
        refine x_aload_n dL_law_193 rfl rfl (Or.inl rfl) (?_ : Ex _ _ 194 _ _ _ _ _)
        refine x_iload dL_law_194 rfl (?_ : Ex _ _ 196 _ _ _ _ _)
        refine x_iconst dL_law_196 rfl (by decide) (?_ : Ex _ _ 197 _ _ _ _ _)
        obtain ⟨c16, h⟩ := chk_some h
        refine x_iadd dL_law_197 c16 (?_ : Ex _ _ 198 _ _ _ _ _)
        obtain ⟨⟨c17, c18, c19⟩, h⟩ := chk_some h
        refine x_sld c17 c18 c19 dL_law_198 (?_ : Ex _ _ 199 _ _ _ _ _)
        refine x_aload_n dL_law_199 rfl rfl (Or.inl rfl) (?_ : Ex _ _ 200 _ _ _ _ _)
        refine x_iload dL_law_200 rfl (?_ : Ex _ _ 202 _ _ _ _ _)
        refine x_iconst dL_law_202 rfl (by decide) (?_ : Ex _ _ 203 _ _ _ _ _)
        obtain ⟨c20, h⟩ := chk_some h
        refine x_iadd dL_law_203 c20 (?_ : Ex _ _ 204 _ _ _ _ _)
        obtain ⟨⟨c21, c22, c23⟩, h⟩ := chk_some h
        refine x_sld c21 c22 c23 dL_law_204 (?_ : Ex _ _ 205 _ _ _ _ _)
        refine x_aload_n dL_law_205 rfl rfl (Or.inr (by decide)) (?_ : Ex _ _ 206 _ _ _ _ _)
        obtain ⟨v24, m25, g26, h⟩ := cal_some h
        refine cW6 (e_L_step (d + 43) g26) (by decide) (?_ : Ex _ _ 209 _ _ _ _ _) og_L_step (List.cons_ne_nil _ _) ml_RL_118 sm_L_step (Nat.le_of_ble_eq_true rfl) dL_law_206
        refine x_istore (ls2 := [(7, 0), (21, l1), (22, l2), (300001, l3), (0, l4), (0, v24), (3, 0)]) dL_law_209 (Nat.le_of_ble_eq_true rfl) rfl (?_ : Ex _ _ 211 _ _ _ _ _)
        refine x_aload_n dL_law_211 rfl rfl (Or.inr (by decide)) (?_ : Ex _ _ 212 _ _ _ _ _)
        refine x_aload_n dL_law_212 rfl rfl (Or.inl rfl) (?_ : Ex _ _ 213 _ _ _ _ _)
        refine x_iload dL_law_213 rfl (?_ : Ex _ _ 215 _ _ _ _ _)
        refine x_iconst dL_law_215 rfl (by decide) (?_ : Ex _ _ 216 _ _ _ _ _)
        obtain ⟨c27, h⟩ := chk_some h
        refine x_iadd dL_law_216 c27 (?_ : Ex _ _ 217 _ _ _ _ _)
        obtain ⟨⟨c28, c29, c30⟩, h⟩ := chk_some h
        refine x_sld c28 c29 c30 dL_law_217 (?_ : Ex _ _ 218 _ _ _ _ _)
        refine x_aload_n dL_law_218 rfl rfl (Or.inl rfl) (?_ : Ex _ _ 219 _ _ _ _ _)
        refine x_iload dL_law_219 rfl (?_ : Ex _ _ 221 _ _ _ _ _)
        refine x_iconst dL_law_221 rfl (by decide) (?_ : Ex _ _ 222 _ _ _ _ _)
        obtain ⟨c31, h⟩ := chk_some h
        refine x_iadd dL_law_222 c31 (?_ : Ex _ _ 223 _ _ _ _ _)
        obtain ⟨⟨c32, c33, c34⟩, h⟩ := chk_some h
        refine x_sld c32 c33 c34 dL_law_223 (?_ : Ex _ _ 224 _ _ _ _ _)
        refine x_aload_n dL_law_224 rfl rfl (Or.inl rfl) (?_ : Ex _ _ 225 _ _ _ _ _)
        refine x_iload dL_law_225 rfl (?_ : Ex _ _ 227 _ _ _ _ _)
        refine x_iconst dL_law_227 rfl (by decide) (?_ : Ex _ _ 228 _ _ _ _ _)
        obtain ⟨c35, h⟩ := chk_some h
        refine x_iadd dL_law_228 c35 (?_ : Ex _ _ 229 _ _ _ _ _)
        obtain ⟨⟨c36, c37, c38⟩, h⟩ := chk_some h
        refine x_sld c36 c37 c38 dL_law_229 (?_ : Ex _ _ 230 _ _ _ _ _)
        refine x_aload_n dL_law_230 rfl rfl (Or.inl rfl) (?_ : Ex _ _ 231 _ _ _ _ _)
        refine x_iload dL_law_231 rfl (?_ : Ex _ _ 233 _ _ _ _ _)
        refine x_iconst dL_law_233 rfl (by decide) (?_ : Ex _ _ 234 _ _ _ _ _)
        obtain ⟨c39, h⟩ := chk_some h
        refine x_iadd dL_law_234 c39 (?_ : Ex _ _ 235 _ _ _ _ _)
        obtain ⟨⟨c40, c41, c42⟩, h⟩ := chk_some h
        refine x_sld c40 c41 c42 dL_law_235 (?_ : Ex _ _ 236 _ _ _ _ _)
        obtain ⟨c43, h⟩ := chk_some h
        obtain ⟨v44, m45, g46, h⟩ := cal_some h
        refine cV4 (e_X12_step (d + 43) g46) (contN (by decide) (?_ : Ex _ _ 239 _ _ _ _ _)) og_X12_step rfl ml_RL_123 12 rfl rfl c43 im_X12_step se_X12_step (Nat.le_of_ble_eq_true rfl) dL_law_236
        refine x_istore (ls2 := [(7, 0), (21, l1), (22, l2), (300001, l3), (0, l4), (0, v24), (0, v44)]) dL_law_239 (Nat.le_of_ble_eq_true rfl) rfl (?_ : Ex _ _ 241 _ _ _ _ _)
        refine x_aload_n dL_law_241 rfl rfl (Or.inr (by decide)) (?_ : Ex _ _ 242 _ _ _ _ _)
        obtain ⟨v47, m48, g49, h⟩ := cal_some h
        refine cV0 (e_X12_thrown (d + 46) g49) (contN (by decide) (?_ : Ex _ _ 245 _ _ _ _ _)) og_X12_thrown rfl ml_RL_124 12 rfl rfl c43 im_X12_thrown se_X12_thrown (Nat.le_of_ble_eq_true rfl) dL_law_242
        refine x_iload dL_law_245 rfl (?_ : Ex _ _ 247 _ _ _ _ _)
        rcases ite_some h with ⟨b50, h⟩ | ⟨b50, h⟩
        · refine x_icmp_eq (tgt := 252) dL_law_247 rfl b50 (?_ : Ex _ _ 252 _ _ _ _ _)
          refine x_iload dL_law_252 rfl (?_ : Ex _ _ 254 _ _ _ _ _)
          rcases ite_some h with ⟨b51, h⟩ | ⟨b51, h⟩
          · refine x_if_neN dL_law_254 (by decide) (fun hh => hh b51) (?_ : Ex _ _ 257 _ _ _ _ _)
            refine x_aload_n dL_law_257 rfl rfl (Or.inr (by decide)) (?_ : Ex _ _ 258 _ _ _ _ _)
            refine x_iconst dL_law_258 rfl (by decide) (?_ : Ex _ _ 259 _ _ _ _ _)
            obtain ⟨c53, h⟩ := chk_some h
            refine ld_l_1 c53 (by decide) (by decide) dL_law_259 (?_ : Ex _ _ 260 _ _ _ _ _)
            refine x_iload dL_law_260 rfl (?_ : Ex _ _ 262 _ _ _ _ _)
            refine x_i2l dL_law_262 (?_ : Ex _ _ 263 _ _ _ _ _)
            refine x_lcmp dL_law_263 (?_ : Ex _ _ 264 _ _ _ _ _)
            rcases ite_some h with ⟨b54, h⟩ | ⟨b54, h⟩
            · refine x_if_eq (tgt := 269) dL_law_264 rfl b54 (?_ : Ex _ _ 269 _ _ _ _ _)
              refine x_goto (tgt := 2241) dL_law_269 rfl (?_ : Ex _ _ 2241 _ _ _ _ _)
              obtain ⟨c55, h⟩ := chk_some h
              refine x_iinc (ls2 := [(7, 0), (21, l1), (22, l2), (300001, l3), (0, (l4 + 5)), (0, v24), (0, v44)]) dL_law_2241 rfl c55 rfl (?_ : Ex _ _ 2244 _ _ _ _ _)
              refine x_goto (tgt := 23) dL_law_2244 rfl (?_ : Ex _ _ 23 _ _ _ _ _)
              refine Ex.wk (ls2 := [(7, 0), (21, l1), (22, l2), (300001, l3), (0, (l4 + 5)), (3, 0), (3, 0)]) ⟨Or.inr rfl, Or.inr rfl, Or.inr rfl, Or.inr rfl, Or.inr rfl, Or.inl rfl, Or.inl rfl, trivial⟩ ?_
              exact ih h
            · refine x_if_eqN dL_law_264 (by decide) b54 (?_ : Ex _ _ 267 _ _ _ _ _)
              refine x_iconst dL_law_267 rfl (by decide) (?_ : Ex _ _ 268 _ _ _ _ _)
              cases h
              exact x_ret dL_law_268 (by decide : (0 : Int) ≠ 3)
          · refine x_if_ne (tgt := 269) dL_law_254 rfl b51 (?_ : Ex _ _ 269 _ _ _ _ _)
            refine x_goto (tgt := 2241) dL_law_269 rfl (?_ : Ex _ _ 2241 _ _ _ _ _)
            obtain ⟨c52, h⟩ := chk_some h
            refine x_iinc (ls2 := [(7, 0), (21, l1), (22, l2), (300001, l3), (0, (l4 + 5)), (0, v24), (0, v44)]) dL_law_2241 rfl c52 rfl (?_ : Ex _ _ 2244 _ _ _ _ _)
            refine x_goto (tgt := 23) dL_law_2244 rfl (?_ : Ex _ _ 23 _ _ _ _ _)
            refine Ex.wk (ls2 := [(7, 0), (21, l1), (22, l2), (300001, l3), (0, (l4 + 5)), (3, 0), (3, 0)]) ⟨Or.inr rfl, Or.inr rfl, Or.inr rfl, Or.inr rfl, Or.inr rfl, Or.inl rfl, Or.inl rfl, trivial⟩ ?_
            exact ih h
        · refine x_icmp_eqN dL_law_247 (by decide) b50 (?_ : Ex _ _ 250 _ _ _ _ _)
          refine x_iconst dL_law_250 rfl (by decide) (?_ : Ex _ _ 251 _ _ _ _ _)
          cases h
          exact x_ret dL_law_251 (by decide : (0 : Int) ≠ 3)
      rcases ite_some h with ⟨b56, h⟩ | ⟨b56, h⟩
      · refine y_tableAt (j := 1) (off := 233) (tgt := 272) b56 dL_law_39 (by decide) (by decide) rfl rfl (?_ : Ex _ _ 272 _ _ _ _ _)
        refine x_aload_n dL_law_272 rfl rfl (Or.inr (by decide)) (?_ : Ex _ _ 273 _ _ _ _ _)
        refine x_aload_n dL_law_273 rfl rfl (Or.inl rfl) (?_ : Ex _ _ 274 _ _ _ _ _)
        refine x_iload dL_law_274 rfl (?_ : Ex _ _ 276 _ _ _ _ _)
        refine x_iconst dL_law_276 rfl (by decide) (?_ : Ex _ _ 277 _ _ _ _ _)
        obtain ⟨c57, h⟩ := chk_some h
        refine x_iadd dL_law_277 c57 (?_ : Ex _ _ 278 _ _ _ _ _)
        obtain ⟨⟨c58, c59, c60⟩, h⟩ := chk_some h
        refine x_sld c58 c59 c60 dL_law_278 (?_ : Ex _ _ 279 _ _ _ _ _)
        refine x_aload_n dL_law_279 rfl rfl (Or.inr (by decide)) (?_ : Ex _ _ 280 _ _ _ _ _)
        obtain ⟨v61, m62, g63, h⟩ := cal_some h
        refine cW3 (e_L_forget (d + 43) g63) (by decide) (?_ : Ex _ _ 283 _ _ _ _ _) og_L_forget (List.cons_ne_nil _ _) ml_RL_128 sm_L_forget (Nat.le_of_ble_eq_true rfl) dL_law_280
        refine x_istore (ls2 := [(7, 0), (21, l1), (22, l2), (300001, l3), (0, l4), (0, v61), (3, 0)]) dL_law_283 (Nat.le_of_ble_eq_true rfl) rfl (?_ : Ex _ _ 285 _ _ _ _ _)
        refine x_aload_n dL_law_285 rfl rfl (Or.inr (by decide)) (?_ : Ex _ _ 286 _ _ _ _ _)
        refine x_aload_n dL_law_286 rfl rfl (Or.inl rfl) (?_ : Ex _ _ 287 _ _ _ _ _)
        refine x_iload dL_law_287 rfl (?_ : Ex _ _ 289 _ _ _ _ _)
        refine x_iconst dL_law_289 rfl (by decide) (?_ : Ex _ _ 290 _ _ _ _ _)
        obtain ⟨c64, h⟩ := chk_some h
        refine x_iadd dL_law_290 c64 (?_ : Ex _ _ 291 _ _ _ _ _)
        obtain ⟨⟨c65, c66, c67⟩, h⟩ := chk_some h
        refine x_sld c65 c66 c67 dL_law_291 (?_ : Ex _ _ 292 _ _ _ _ _)
        obtain ⟨c68, h⟩ := chk_some h
        obtain ⟨v69, m70, g71, h⟩ := cal_some h
        refine cV1 (e_X12_forget (d + 44) g71) (contN (by decide) (?_ : Ex _ _ 295 _ _ _ _ _)) og_X12_forget rfl ml_RL_131 12 rfl rfl c68 im_X12_forget se_X12_forget (Nat.le_of_ble_eq_true rfl) dL_law_292
        refine x_istore (ls2 := [(7, 0), (21, l1), (22, l2), (300001, l3), (0, l4), (0, v61), (0, v69)]) dL_law_295 (Nat.le_of_ble_eq_true rfl) rfl (?_ : Ex _ _ 297 _ _ _ _ _)
        refine x_aload_n dL_law_297 rfl rfl (Or.inr (by decide)) (?_ : Ex _ _ 298 _ _ _ _ _)
        obtain ⟨v72, m73, g74, h⟩ := cal_some h
        refine cV0 (e_X12_thrown (d + 46) g74) (contN (by decide) (?_ : Ex _ _ 301 _ _ _ _ _)) og_X12_thrown rfl ml_RL_124 12 rfl rfl c68 im_X12_thrown se_X12_thrown (Nat.le_of_ble_eq_true rfl) dL_law_298
        refine x_iload dL_law_301 rfl (?_ : Ex _ _ 303 _ _ _ _ _)
        rcases ite_some h with ⟨b75, h⟩ | ⟨b75, h⟩
        · refine x_icmp_eq (tgt := 308) dL_law_303 rfl b75 (?_ : Ex _ _ 308 _ _ _ _ _)
          refine x_iload dL_law_308 rfl (?_ : Ex _ _ 310 _ _ _ _ _)
          rcases ite_some h with ⟨b76, h⟩ | ⟨b76, h⟩
          · refine x_if_neN dL_law_310 (by decide) (fun hh => hh b76) (?_ : Ex _ _ 313 _ _ _ _ _)
            refine x_aload_n dL_law_313 rfl rfl (Or.inr (by decide)) (?_ : Ex _ _ 314 _ _ _ _ _)
            refine x_iconst dL_law_314 rfl (by decide) (?_ : Ex _ _ 315 _ _ _ _ _)
            obtain ⟨c78, h⟩ := chk_some h
            refine ld_l_1 c78 (by decide) (by decide) dL_law_315 (?_ : Ex _ _ 316 _ _ _ _ _)
            refine x_iload dL_law_316 rfl (?_ : Ex _ _ 318 _ _ _ _ _)
            refine x_i2l dL_law_318 (?_ : Ex _ _ 319 _ _ _ _ _)
            refine x_lcmp dL_law_319 (?_ : Ex _ _ 320 _ _ _ _ _)
            rcases ite_some h with ⟨b79, h⟩ | ⟨b79, h⟩
            · refine x_if_eq (tgt := 325) dL_law_320 rfl b79 (?_ : Ex _ _ 325 _ _ _ _ _)
              refine x_goto (tgt := 2241) dL_law_325 rfl (?_ : Ex _ _ 2241 _ _ _ _ _)
              obtain ⟨c80, h⟩ := chk_some h
              refine x_iinc (ls2 := [(7, 0), (21, l1), (22, l2), (300001, l3), (0, (l4 + 5)), (0, v61), (0, v69)]) dL_law_2241 rfl c80 rfl (?_ : Ex _ _ 2244 _ _ _ _ _)
              refine x_goto (tgt := 23) dL_law_2244 rfl (?_ : Ex _ _ 23 _ _ _ _ _)
              refine Ex.wk (ls2 := [(7, 0), (21, l1), (22, l2), (300001, l3), (0, (l4 + 5)), (3, 0), (3, 0)]) ⟨Or.inr rfl, Or.inr rfl, Or.inr rfl, Or.inr rfl, Or.inr rfl, Or.inl rfl, Or.inl rfl, trivial⟩ ?_
              exact ih h
            · refine x_if_eqN dL_law_320 (by decide) b79 (?_ : Ex _ _ 323 _ _ _ _ _)
              refine x_iconst dL_law_323 rfl (by decide) (?_ : Ex _ _ 324 _ _ _ _ _)
              cases h
              exact x_ret dL_law_324 (by decide : (0 : Int) ≠ 3)
          · refine x_if_ne (tgt := 325) dL_law_310 rfl b76 (?_ : Ex _ _ 325 _ _ _ _ _)
            refine x_goto (tgt := 2241) dL_law_325 rfl (?_ : Ex _ _ 2241 _ _ _ _ _)
            obtain ⟨c77, h⟩ := chk_some h
            refine x_iinc (ls2 := [(7, 0), (21, l1), (22, l2), (300001, l3), (0, (l4 + 5)), (0, v61), (0, v69)]) dL_law_2241 rfl c77 rfl (?_ : Ex _ _ 2244 _ _ _ _ _)
            refine x_goto (tgt := 23) dL_law_2244 rfl (?_ : Ex _ _ 23 _ _ _ _ _)
            refine Ex.wk (ls2 := [(7, 0), (21, l1), (22, l2), (300001, l3), (0, (l4 + 5)), (3, 0), (3, 0)]) ⟨Or.inr rfl, Or.inr rfl, Or.inr rfl, Or.inr rfl, Or.inr rfl, Or.inl rfl, Or.inl rfl, trivial⟩ ?_
            exact ih h
        · refine x_icmp_eqN dL_law_303 (by decide) b75 (?_ : Ex _ _ 306 _ _ _ _ _)
          refine x_iconst dL_law_306 rfl (by decide) (?_ : Ex _ _ 307 _ _ _ _ _)
          cases h
          exact x_ret dL_law_307 (by decide : (0 : Int) ≠ 3)
      rcases ite_some h with ⟨b81, h⟩ | ⟨b81, h⟩
      · refine y_tableAt (j := 2) (off := 289) (tgt := 328) b81 dL_law_39 (by decide) (by decide) rfl rfl (?_ : Ex _ _ 328 _ _ _ _ _)
        refine x_aload_n dL_law_328 rfl rfl (Or.inr (by decide)) (?_ : Ex _ _ 329 _ _ _ _ _)
        refine x_aload_n dL_law_329 rfl rfl (Or.inl rfl) (?_ : Ex _ _ 330 _ _ _ _ _)
        refine x_iload dL_law_330 rfl (?_ : Ex _ _ 332 _ _ _ _ _)
        refine x_iconst dL_law_332 rfl (by decide) (?_ : Ex _ _ 333 _ _ _ _ _)
        obtain ⟨c82, h⟩ := chk_some h
        refine x_iadd dL_law_333 c82 (?_ : Ex _ _ 334 _ _ _ _ _)
        obtain ⟨⟨c83, c84, c85⟩, h⟩ := chk_some h
        refine x_sld c83 c84 c85 dL_law_334 (?_ : Ex _ _ 335 _ _ _ _ _)
        refine x_aload_n dL_law_335 rfl rfl (Or.inr (by decide)) (?_ : Ex _ _ 336 _ _ _ _ _)
        obtain ⟨v86, m87, g88, h⟩ := cal_some h
        refine cW3 (e_L_release (d + 42) g88) (by decide) (?_ : Ex _ _ 339 _ _ _ _ _) og_L_release (List.cons_ne_nil _ _) ml_RL_132 sm_L_release (Nat.le_of_ble_eq_true rfl) dL_law_336
        refine x_istore (ls2 := [(7, 0), (21, l1), (22, l2), (300001, l3), (0, l4), (0, v86), (3, 0)]) dL_law_339 (Nat.le_of_ble_eq_true rfl) rfl (?_ : Ex _ _ 341 _ _ _ _ _)
        refine x_aload_n dL_law_341 rfl rfl (Or.inr (by decide)) (?_ : Ex _ _ 342 _ _ _ _ _)
        refine x_aload_n dL_law_342 rfl rfl (Or.inl rfl) (?_ : Ex _ _ 343 _ _ _ _ _)
        refine x_iload dL_law_343 rfl (?_ : Ex _ _ 345 _ _ _ _ _)
        refine x_iconst dL_law_345 rfl (by decide) (?_ : Ex _ _ 346 _ _ _ _ _)
        obtain ⟨c89, h⟩ := chk_some h
        refine x_iadd dL_law_346 c89 (?_ : Ex _ _ 347 _ _ _ _ _)
        obtain ⟨⟨c90, c91, c92⟩, h⟩ := chk_some h
        refine x_sld c90 c91 c92 dL_law_347 (?_ : Ex _ _ 348 _ _ _ _ _)
        obtain ⟨c93, h⟩ := chk_some h
        obtain ⟨v94, m95, g96, h⟩ := cal_some h
        refine cV1 (e_X12_release (d + 44) g96) (contN (by decide) (?_ : Ex _ _ 351 _ _ _ _ _)) og_X12_release rfl ml_RL_134 12 rfl rfl c93 im_X12_release se_X12_release (Nat.le_of_ble_eq_true rfl) dL_law_348
        refine x_istore (ls2 := [(7, 0), (21, l1), (22, l2), (300001, l3), (0, l4), (0, v86), (0, v94)]) dL_law_351 (Nat.le_of_ble_eq_true rfl) rfl (?_ : Ex _ _ 353 _ _ _ _ _)
        refine x_aload_n dL_law_353 rfl rfl (Or.inr (by decide)) (?_ : Ex _ _ 354 _ _ _ _ _)
        obtain ⟨v97, m98, g99, h⟩ := cal_some h
        refine cV0 (e_X12_thrown (d + 46) g99) (contN (by decide) (?_ : Ex _ _ 357 _ _ _ _ _)) og_X12_thrown rfl ml_RL_124 12 rfl rfl c93 im_X12_thrown se_X12_thrown (Nat.le_of_ble_eq_true rfl) dL_law_354
        refine x_iload dL_law_357 rfl (?_ : Ex _ _ 359 _ _ _ _ _)
        rcases ite_some h with ⟨b100, h⟩ | ⟨b100, h⟩
        · refine x_icmp_eq (tgt := 364) dL_law_359 rfl b100 (?_ : Ex _ _ 364 _ _ _ _ _)
          refine x_iload dL_law_364 rfl (?_ : Ex _ _ 366 _ _ _ _ _)
          rcases ite_some h with ⟨b101, h⟩ | ⟨b101, h⟩
          · refine x_if_neN dL_law_366 (by decide) (fun hh => hh b101) (?_ : Ex _ _ 369 _ _ _ _ _)
            refine x_aload_n dL_law_369 rfl rfl (Or.inr (by decide)) (?_ : Ex _ _ 370 _ _ _ _ _)
            refine x_iconst dL_law_370 rfl (by decide) (?_ : Ex _ _ 371 _ _ _ _ _)
            obtain ⟨c103, h⟩ := chk_some h
            refine ld_l_1 c103 (by decide) (by decide) dL_law_371 (?_ : Ex _ _ 372 _ _ _ _ _)
            refine x_iload dL_law_372 rfl (?_ : Ex _ _ 374 _ _ _ _ _)
            refine x_i2l dL_law_374 (?_ : Ex _ _ 375 _ _ _ _ _)
            refine x_lcmp dL_law_375 (?_ : Ex _ _ 376 _ _ _ _ _)
            rcases ite_some h with ⟨b104, h⟩ | ⟨b104, h⟩
            · refine x_if_eq (tgt := 381) dL_law_376 rfl b104 (?_ : Ex _ _ 381 _ _ _ _ _)
              refine x_goto (tgt := 2241) dL_law_381 rfl (?_ : Ex _ _ 2241 _ _ _ _ _)
              obtain ⟨c105, h⟩ := chk_some h
              refine x_iinc (ls2 := [(7, 0), (21, l1), (22, l2), (300001, l3), (0, (l4 + 5)), (0, v86), (0, v94)]) dL_law_2241 rfl c105 rfl (?_ : Ex _ _ 2244 _ _ _ _ _)
              refine x_goto (tgt := 23) dL_law_2244 rfl (?_ : Ex _ _ 23 _ _ _ _ _)
              refine Ex.wk (ls2 := [(7, 0), (21, l1), (22, l2), (300001, l3), (0, (l4 + 5)), (3, 0), (3, 0)]) ⟨Or.inr rfl, Or.inr rfl, Or.inr rfl, Or.inr rfl, Or.inr rfl, Or.inl rfl, Or.inl rfl, trivial⟩ ?_
              exact ih h
            · refine x_if_eqN dL_law_376 (by decide) b104 (?_ : Ex _ _ 379 _ _ _ _ _)
              refine x_iconst dL_law_379 rfl (by decide) (?_ : Ex _ _ 380 _ _ _ _ _)
              cases h
              exact x_ret dL_law_380 (by decide : (0 : Int) ≠ 3)
          · refine x_if_ne (tgt := 381) dL_law_366 rfl b101 (?_ : Ex _ _ 381 _ _ _ _ _)
            refine x_goto (tgt := 2241) dL_law_381 rfl (?_ : Ex _ _ 2241 _ _ _ _ _)
            obtain ⟨c102, h⟩ := chk_some h
            refine x_iinc (ls2 := [(7, 0), (21, l1), (22, l2), (300001, l3), (0, (l4 + 5)), (0, v86), (0, v94)]) dL_law_2241 rfl c102 rfl (?_ : Ex _ _ 2244 _ _ _ _ _)
            refine x_goto (tgt := 23) dL_law_2244 rfl (?_ : Ex _ _ 23 _ _ _ _ _)
            refine Ex.wk (ls2 := [(7, 0), (21, l1), (22, l2), (300001, l3), (0, (l4 + 5)), (3, 0), (3, 0)]) ⟨Or.inr rfl, Or.inr rfl, Or.inr rfl, Or.inr rfl, Or.inr rfl, Or.inl rfl, Or.inl rfl, trivial⟩ ?_
            exact ih h
        · refine x_icmp_eqN dL_law_359 (by decide) b100 (?_ : Ex _ _ 362 _ _ _ _ _)
          refine x_iconst dL_law_362 rfl (by decide) (?_ : Ex _ _ 363 _ _ _ _ _)
          cases h
          exact x_ret dL_law_363 (by decide : (0 : Int) ≠ 3)
      rcases ite_some h with ⟨b106, h⟩ | ⟨b106, h⟩
      · refine y_tableAt (j := 3) (off := 345) (tgt := 384) b106 dL_law_39 (by decide) (by decide) rfl rfl (?_ : Ex _ _ 384 _ _ _ _ _)
        refine x_aload_n dL_law_384 rfl rfl (Or.inr (by decide)) (?_ : Ex _ _ 385 _ _ _ _ _)
        refine x_aload_n dL_law_385 rfl rfl (Or.inl rfl) (?_ : Ex _ _ 386 _ _ _ _ _)
        refine x_iload dL_law_386 rfl (?_ : Ex _ _ 388 _ _ _ _ _)
        refine x_iconst dL_law_388 rfl (by decide) (?_ : Ex _ _ 389 _ _ _ _ _)
        obtain ⟨c107, h⟩ := chk_some h
        refine x_iadd dL_law_389 c107 (?_ : Ex _ _ 390 _ _ _ _ _)
        obtain ⟨⟨c108, c109, c110⟩, h⟩ := chk_some h
        refine x_sld c108 c109 c110 dL_law_390 (?_ : Ex _ _ 391 _ _ _ _ _)
        refine x_aload_n dL_law_391 rfl rfl (Or.inr (by decide)) (?_ : Ex _ _ 392 _ _ _ _ _)
        obtain ⟨v111, m112, g113, h⟩ := cal_some h
        refine cW3 (e_L_versions (d + 43) g113) (by decide) (?_ : Ex _ _ 395 _ _ _ _ _) og_L_versions (List.cons_ne_nil _ _) ml_RL_135 sm_L_versions (Nat.le_of_ble_eq_true rfl) dL_law_392
        refine x_istore (ls2 := [(7, 0), (21, l1), (22, l2), (300001, l3), (0, l4), (0, v111), (3, 0)]) dL_law_395 (Nat.le_of_ble_eq_true rfl) rfl (?_ : Ex _ _ 397 _ _ _ _ _)
        refine x_aload_n dL_law_397 rfl rfl (Or.inr (by decide)) (?_ : Ex _ _ 398 _ _ _ _ _)
        refine x_aload_n dL_law_398 rfl rfl (Or.inl rfl) (?_ : Ex _ _ 399 _ _ _ _ _)
        refine x_iload dL_law_399 rfl (?_ : Ex _ _ 401 _ _ _ _ _)
        refine x_iconst dL_law_401 rfl (by decide) (?_ : Ex _ _ 402 _ _ _ _ _)
        obtain ⟨c114, h⟩ := chk_some h
        refine x_iadd dL_law_402 c114 (?_ : Ex _ _ 403 _ _ _ _ _)
        obtain ⟨⟨c115, c116, c117⟩, h⟩ := chk_some h
        refine x_sld c115 c116 c117 dL_law_403 (?_ : Ex _ _ 404 _ _ _ _ _)
        obtain ⟨c118, h⟩ := chk_some h
        obtain ⟨v119, m120, g121, h⟩ := cal_some h
        refine cV1 (e_X12_versions (d + 44) g121) (contN (by decide) (?_ : Ex _ _ 407 _ _ _ _ _)) og_X12_versions rfl ml_RL_137 12 rfl rfl c118 im_X12_versions se_X12_versions (Nat.le_of_ble_eq_true rfl) dL_law_404
        refine x_istore (ls2 := [(7, 0), (21, l1), (22, l2), (300001, l3), (0, l4), (0, v111), (0, v119)]) dL_law_407 (Nat.le_of_ble_eq_true rfl) rfl (?_ : Ex _ _ 409 _ _ _ _ _)
        refine x_aload_n dL_law_409 rfl rfl (Or.inr (by decide)) (?_ : Ex _ _ 410 _ _ _ _ _)
        obtain ⟨v122, m123, g124, h⟩ := cal_some h
        refine cV0 (e_X12_thrown (d + 46) g124) (contN (by decide) (?_ : Ex _ _ 413 _ _ _ _ _)) og_X12_thrown rfl ml_RL_124 12 rfl rfl c118 im_X12_thrown se_X12_thrown (Nat.le_of_ble_eq_true rfl) dL_law_410
        refine x_iload dL_law_413 rfl (?_ : Ex _ _ 415 _ _ _ _ _)
        rcases ite_some h with ⟨b125, h⟩ | ⟨b125, h⟩
        · refine x_icmp_eq (tgt := 420) dL_law_415 rfl b125 (?_ : Ex _ _ 420 _ _ _ _ _)
          refine x_iload dL_law_420 rfl (?_ : Ex _ _ 422 _ _ _ _ _)
          rcases ite_some h with ⟨b126, h⟩ | ⟨b126, h⟩
          · refine x_if_neN dL_law_422 (by decide) (fun hh => hh b126) (?_ : Ex _ _ 425 _ _ _ _ _)
            refine x_aload_n dL_law_425 rfl rfl (Or.inr (by decide)) (?_ : Ex _ _ 426 _ _ _ _ _)
            refine x_iconst dL_law_426 rfl (by decide) (?_ : Ex _ _ 427 _ _ _ _ _)
            obtain ⟨c128, h⟩ := chk_some h
            refine ld_l_1 c128 (by decide) (by decide) dL_law_427 (?_ : Ex _ _ 428 _ _ _ _ _)
            refine x_iload dL_law_428 rfl (?_ : Ex _ _ 430 _ _ _ _ _)
            refine x_i2l dL_law_430 (?_ : Ex _ _ 431 _ _ _ _ _)
            refine x_lcmp dL_law_431 (?_ : Ex _ _ 432 _ _ _ _ _)
            rcases ite_some h with ⟨b129, h⟩ | ⟨b129, h⟩
            · refine x_if_eq (tgt := 437) dL_law_432 rfl b129 (?_ : Ex _ _ 437 _ _ _ _ _)
              refine x_goto (tgt := 2241) dL_law_437 rfl (?_ : Ex _ _ 2241 _ _ _ _ _)
              obtain ⟨c130, h⟩ := chk_some h
              refine x_iinc (ls2 := [(7, 0), (21, l1), (22, l2), (300001, l3), (0, (l4 + 5)), (0, v111), (0, v119)]) dL_law_2241 rfl c130 rfl (?_ : Ex _ _ 2244 _ _ _ _ _)
              refine x_goto (tgt := 23) dL_law_2244 rfl (?_ : Ex _ _ 23 _ _ _ _ _)
              refine Ex.wk (ls2 := [(7, 0), (21, l1), (22, l2), (300001, l3), (0, (l4 + 5)), (3, 0), (3, 0)]) ⟨Or.inr rfl, Or.inr rfl, Or.inr rfl, Or.inr rfl, Or.inr rfl, Or.inl rfl, Or.inl rfl, trivial⟩ ?_
              exact ih h
            · refine x_if_eqN dL_law_432 (by decide) b129 (?_ : Ex _ _ 435 _ _ _ _ _)
              refine x_iconst dL_law_435 rfl (by decide) (?_ : Ex _ _ 436 _ _ _ _ _)
              cases h
              exact x_ret dL_law_436 (by decide : (0 : Int) ≠ 3)
          · refine x_if_ne (tgt := 437) dL_law_422 rfl b126 (?_ : Ex _ _ 437 _ _ _ _ _)
            refine x_goto (tgt := 2241) dL_law_437 rfl (?_ : Ex _ _ 2241 _ _ _ _ _)
            obtain ⟨c127, h⟩ := chk_some h
            refine x_iinc (ls2 := [(7, 0), (21, l1), (22, l2), (300001, l3), (0, (l4 + 5)), (0, v111), (0, v119)]) dL_law_2241 rfl c127 rfl (?_ : Ex _ _ 2244 _ _ _ _ _)
            refine x_goto (tgt := 23) dL_law_2244 rfl (?_ : Ex _ _ 23 _ _ _ _ _)
            refine Ex.wk (ls2 := [(7, 0), (21, l1), (22, l2), (300001, l3), (0, (l4 + 5)), (3, 0), (3, 0)]) ⟨Or.inr rfl, Or.inr rfl, Or.inr rfl, Or.inr rfl, Or.inr rfl, Or.inl rfl, Or.inl rfl, trivial⟩ ?_
            exact ih h
        · refine x_icmp_eqN dL_law_415 (by decide) b125 (?_ : Ex _ _ 418 _ _ _ _ _)
          refine x_iconst dL_law_418 rfl (by decide) (?_ : Ex _ _ 419 _ _ _ _ _)
          cases h
          exact x_ret dL_law_419 (by decide : (0 : Int) ≠ 3)
      rcases ite_some h with ⟨b131, h⟩ | ⟨b131, h⟩
      · refine y_tableAt (j := 4) (off := 401) (tgt := 440) b131 dL_law_39 (by decide) (by decide) rfl rfl (?_ : Ex _ _ 440 _ _ _ _ _)
        refine x_aload_n dL_law_440 rfl rfl (Or.inr (by decide)) (?_ : Ex _ _ 441 _ _ _ _ _)
        refine x_aload_n dL_law_441 rfl rfl (Or.inl rfl) (?_ : Ex _ _ 442 _ _ _ _ _)
        refine x_iload dL_law_442 rfl (?_ : Ex _ _ 444 _ _ _ _ _)
        refine x_iconst dL_law_444 rfl (by decide) (?_ : Ex _ _ 445 _ _ _ _ _)
        obtain ⟨c132, h⟩ := chk_some h
        refine x_iadd dL_law_445 c132 (?_ : Ex _ _ 446 _ _ _ _ _)
        obtain ⟨⟨c133, c134, c135⟩, h⟩ := chk_some h
        refine x_sld c133 c134 c135 dL_law_446 (?_ : Ex _ _ 447 _ _ _ _ _)
        refine x_aload_n dL_law_447 rfl rfl (Or.inl rfl) (?_ : Ex _ _ 448 _ _ _ _ _)
        refine x_iload dL_law_448 rfl (?_ : Ex _ _ 450 _ _ _ _ _)
        refine x_iconst dL_law_450 rfl (by decide) (?_ : Ex _ _ 451 _ _ _ _ _)
        obtain ⟨c136, h⟩ := chk_some h
        refine x_iadd dL_law_451 c136 (?_ : Ex _ _ 452 _ _ _ _ _)
        obtain ⟨⟨c137, c138, c139⟩, h⟩ := chk_some h
        refine x_sld c137 c138 c139 dL_law_452 (?_ : Ex _ _ 453 _ _ _ _ _)
        refine x_aload_n dL_law_453 rfl rfl (Or.inl rfl) (?_ : Ex _ _ 454 _ _ _ _ _)
        refine x_iload dL_law_454 rfl (?_ : Ex _ _ 456 _ _ _ _ _)
        refine x_iconst dL_law_456 rfl (by decide) (?_ : Ex _ _ 457 _ _ _ _ _)
        obtain ⟨c140, h⟩ := chk_some h
        refine x_iadd dL_law_457 c140 (?_ : Ex _ _ 458 _ _ _ _ _)
        obtain ⟨⟨c141, c142, c143⟩, h⟩ := chk_some h
        refine x_sld c141 c142 c143 dL_law_458 (?_ : Ex _ _ 459 _ _ _ _ _)
        refine x_aload_n dL_law_459 rfl rfl (Or.inr (by decide)) (?_ : Ex _ _ 460 _ _ _ _ _)
        obtain ⟨v144, m145, g146, h⟩ := cal_some h
        refine cW5 (e_L_start (d + 42) g146) (by decide) (?_ : Ex _ _ 463 _ _ _ _ _) og_L_start (List.cons_ne_nil _ _) ml_RL_138 sm_L_start (Nat.le_of_ble_eq_true rfl) dL_law_460
        refine x_istore (ls2 := [(7, 0), (21, l1), (22, l2), (300001, l3), (0, l4), (0, v144), (3, 0)]) dL_law_463 (Nat.le_of_ble_eq_true rfl) rfl (?_ : Ex _ _ 465 _ _ _ _ _)
        refine x_aload_n dL_law_465 rfl rfl (Or.inr (by decide)) (?_ : Ex _ _ 466 _ _ _ _ _)
        refine x_aload_n dL_law_466 rfl rfl (Or.inl rfl) (?_ : Ex _ _ 467 _ _ _ _ _)
        refine x_iload dL_law_467 rfl (?_ : Ex _ _ 469 _ _ _ _ _)
        refine x_iconst dL_law_469 rfl (by decide) (?_ : Ex _ _ 470 _ _ _ _ _)
        obtain ⟨c147, h⟩ := chk_some h
        refine x_iadd dL_law_470 c147 (?_ : Ex _ _ 471 _ _ _ _ _)
        obtain ⟨⟨c148, c149, c150⟩, h⟩ := chk_some h
        refine x_sld c148 c149 c150 dL_law_471 (?_ : Ex _ _ 472 _ _ _ _ _)
        refine x_aload_n dL_law_472 rfl rfl (Or.inl rfl) (?_ : Ex _ _ 473 _ _ _ _ _)
        refine x_iload dL_law_473 rfl (?_ : Ex _ _ 475 _ _ _ _ _)
        refine x_iconst dL_law_475 rfl (by decide) (?_ : Ex _ _ 476 _ _ _ _ _)
        obtain ⟨c151, h⟩ := chk_some h
        refine x_iadd dL_law_476 c151 (?_ : Ex _ _ 477 _ _ _ _ _)
        obtain ⟨⟨c152, c153, c154⟩, h⟩ := chk_some h
        refine x_sld c152 c153 c154 dL_law_477 (?_ : Ex _ _ 478 _ _ _ _ _)
        refine x_aload_n dL_law_478 rfl rfl (Or.inl rfl) (?_ : Ex _ _ 479 _ _ _ _ _)
        refine x_iload dL_law_479 rfl (?_ : Ex _ _ 481 _ _ _ _ _)
        refine x_iconst dL_law_481 rfl (by decide) (?_ : Ex _ _ 482 _ _ _ _ _)
        obtain ⟨c155, h⟩ := chk_some h
        refine x_iadd dL_law_482 c155 (?_ : Ex _ _ 483 _ _ _ _ _)
        obtain ⟨⟨c156, c157, c158⟩, h⟩ := chk_some h
        refine x_sld c156 c157 c158 dL_law_483 (?_ : Ex _ _ 484 _ _ _ _ _)
        obtain ⟨c159, h⟩ := chk_some h
        obtain ⟨v160, m161, g162, h⟩ := cal_some h
        refine cV3 (e_X12_start (d + 42) g162) (contN (by decide) (?_ : Ex _ _ 487 _ _ _ _ _)) og_X12_start rfl ml_RL_141 12 rfl rfl c159 im_X12_start se_X12_start (Nat.le_of_ble_eq_true rfl) dL_law_484
        refine x_istore (ls2 := [(7, 0), (21, l1), (22, l2), (300001, l3), (0, l4), (0, v144), (0, v160)]) dL_law_487 (Nat.le_of_ble_eq_true rfl) rfl (?_ : Ex _ _ 489 _ _ _ _ _)
        refine x_aload_n dL_law_489 rfl rfl (Or.inr (by decide)) (?_ : Ex _ _ 490 _ _ _ _ _)
        obtain ⟨v163, m164, g165, h⟩ := cal_some h
        refine cV0 (e_X12_thrown (d + 46) g165) (contN (by decide) (?_ : Ex _ _ 493 _ _ _ _ _)) og_X12_thrown rfl ml_RL_124 12 rfl rfl c159 im_X12_thrown se_X12_thrown (Nat.le_of_ble_eq_true rfl) dL_law_490
        refine x_iload dL_law_493 rfl (?_ : Ex _ _ 495 _ _ _ _ _)
        rcases ite_some h with ⟨b166, h⟩ | ⟨b166, h⟩
        · refine x_icmp_eq (tgt := 500) dL_law_495 rfl b166 (?_ : Ex _ _ 500 _ _ _ _ _)
          refine x_iload dL_law_500 rfl (?_ : Ex _ _ 502 _ _ _ _ _)
          rcases ite_some h with ⟨b167, h⟩ | ⟨b167, h⟩
          · refine x_if_neN dL_law_502 (by decide) (fun hh => hh b167) (?_ : Ex _ _ 505 _ _ _ _ _)
            refine x_aload_n dL_law_505 rfl rfl (Or.inr (by decide)) (?_ : Ex _ _ 506 _ _ _ _ _)
            refine x_iconst dL_law_506 rfl (by decide) (?_ : Ex _ _ 507 _ _ _ _ _)
            obtain ⟨c169, h⟩ := chk_some h
            refine ld_l_1 c169 (by decide) (by decide) dL_law_507 (?_ : Ex _ _ 508 _ _ _ _ _)
            refine x_iload dL_law_508 rfl (?_ : Ex _ _ 510 _ _ _ _ _)
            refine x_i2l dL_law_510 (?_ : Ex _ _ 511 _ _ _ _ _)
            refine x_lcmp dL_law_511 (?_ : Ex _ _ 512 _ _ _ _ _)
            rcases ite_some h with ⟨b170, h⟩ | ⟨b170, h⟩
            · refine x_if_eq (tgt := 517) dL_law_512 rfl b170 (?_ : Ex _ _ 517 _ _ _ _ _)
              refine x_goto (tgt := 2241) dL_law_517 rfl (?_ : Ex _ _ 2241 _ _ _ _ _)
              obtain ⟨c171, h⟩ := chk_some h
              refine x_iinc (ls2 := [(7, 0), (21, l1), (22, l2), (300001, l3), (0, (l4 + 5)), (0, v144), (0, v160)]) dL_law_2241 rfl c171 rfl (?_ : Ex _ _ 2244 _ _ _ _ _)
              refine x_goto (tgt := 23) dL_law_2244 rfl (?_ : Ex _ _ 23 _ _ _ _ _)
              refine Ex.wk (ls2 := [(7, 0), (21, l1), (22, l2), (300001, l3), (0, (l4 + 5)), (3, 0), (3, 0)]) ⟨Or.inr rfl, Or.inr rfl, Or.inr rfl, Or.inr rfl, Or.inr rfl, Or.inl rfl, Or.inl rfl, trivial⟩ ?_
              exact ih h
            · refine x_if_eqN dL_law_512 (by decide) b170 (?_ : Ex _ _ 515 _ _ _ _ _)
              refine x_iconst dL_law_515 rfl (by decide) (?_ : Ex _ _ 516 _ _ _ _ _)
              cases h
              exact x_ret dL_law_516 (by decide : (0 : Int) ≠ 3)
          · refine x_if_ne (tgt := 517) dL_law_502 rfl b167 (?_ : Ex _ _ 517 _ _ _ _ _)
            refine x_goto (tgt := 2241) dL_law_517 rfl (?_ : Ex _ _ 2241 _ _ _ _ _)
            obtain ⟨c168, h⟩ := chk_some h
            refine x_iinc (ls2 := [(7, 0), (21, l1), (22, l2), (300001, l3), (0, (l4 + 5)), (0, v144), (0, v160)]) dL_law_2241 rfl c168 rfl (?_ : Ex _ _ 2244 _ _ _ _ _)
            refine x_goto (tgt := 23) dL_law_2244 rfl (?_ : Ex _ _ 23 _ _ _ _ _)
            refine Ex.wk (ls2 := [(7, 0), (21, l1), (22, l2), (300001, l3), (0, (l4 + 5)), (3, 0), (3, 0)]) ⟨Or.inr rfl, Or.inr rfl, Or.inr rfl, Or.inr rfl, Or.inr rfl, Or.inl rfl, Or.inl rfl, trivial⟩ ?_
            exact ih h
        · refine x_icmp_eqN dL_law_495 (by decide) b166 (?_ : Ex _ _ 498 _ _ _ _ _)
          refine x_iconst dL_law_498 rfl (by decide) (?_ : Ex _ _ 499 _ _ _ _ _)
          cases h
          exact x_ret dL_law_499 (by decide : (0 : Int) ≠ 3)
      rcases ite_some h with ⟨b172, h⟩ | ⟨b172, h⟩
      · refine y_tableAt (j := 5) (off := 481) (tgt := 520) b172 dL_law_39 (by decide) (by decide) rfl rfl (?_ : Ex _ _ 520 _ _ _ _ _)
        refine x_aload_n dL_law_520 rfl rfl (Or.inr (by decide)) (?_ : Ex _ _ 521 _ _ _ _ _)
        refine x_aload_n dL_law_521 rfl rfl (Or.inl rfl) (?_ : Ex _ _ 522 _ _ _ _ _)
        refine x_iload dL_law_522 rfl (?_ : Ex _ _ 524 _ _ _ _ _)
        refine x_iconst dL_law_524 rfl (by decide) (?_ : Ex _ _ 525 _ _ _ _ _)
        obtain ⟨c173, h⟩ := chk_some h
        refine x_iadd dL_law_525 c173 (?_ : Ex _ _ 526 _ _ _ _ _)
        obtain ⟨⟨c174, c175, c176⟩, h⟩ := chk_some h
        refine x_sld c174 c175 c176 dL_law_526 (?_ : Ex _ _ 527 _ _ _ _ _)
        refine x_aload_n dL_law_527 rfl rfl (Or.inl rfl) (?_ : Ex _ _ 528 _ _ _ _ _)
        refine x_iload dL_law_528 rfl (?_ : Ex _ _ 530 _ _ _ _ _)
        refine x_iconst dL_law_530 rfl (by decide) (?_ : Ex _ _ 531 _ _ _ _ _)
        obtain ⟨c177, h⟩ := chk_some h
        refine x_iadd dL_law_531 c177 (?_ : Ex _ _ 532 _ _ _ _ _)
        obtain ⟨⟨c178, c179, c180⟩, h⟩ := chk_some h
        refine x_sld c178 c179 c180 dL_law_532 (?_ : Ex _ _ 533 _ _ _ _ _)
        refine x_aload_n dL_law_533 rfl rfl (Or.inl rfl) (?_ : Ex _ _ 534 _ _ _ _ _)
        refine x_iload dL_law_534 rfl (?_ : Ex _ _ 536 _ _ _ _ _)
        refine x_iconst dL_law_536 rfl (by decide) (?_ : Ex _ _ 537 _ _ _ _ _)
        obtain ⟨c181, h⟩ := chk_some h
        refine x_iadd dL_law_537 c181 (?_ : Ex _ _ 538 _ _ _ _ _)
        obtain ⟨⟨c182, c183, c184⟩, h⟩ := chk_some h
        refine x_sld c182 c183 c184 dL_law_538 (?_ : Ex _ _ 539 _ _ _ _ _)
        refine x_aload_n dL_law_539 rfl rfl (Or.inr (by decide)) (?_ : Ex _ _ 540 _ _ _ _ _)
        obtain ⟨v185, m186, g187, h⟩ := cal_some h
        refine cW5 (e_L_signal (d + 43) g187) (by decide) (?_ : Ex _ _ 543 _ _ _ _ _) og_L_signal (List.cons_ne_nil _ _) ml_RL_142 sm_L_signal (Nat.le_of_ble_eq_true rfl) dL_law_540
        refine x_istore (ls2 := [(7, 0), (21, l1), (22, l2), (300001, l3), (0, l4), (0, v185), (3, 0)]) dL_law_543 (Nat.le_of_ble_eq_true rfl) rfl (?_ : Ex _ _ 545 _ _ _ _ _)
        refine x_aload_n dL_law_545 rfl rfl (Or.inr (by decide)) (?_ : Ex _ _ 546 _ _ _ _ _)
        refine x_aload_n dL_law_546 rfl rfl (Or.inl rfl) (?_ : Ex _ _ 547 _ _ _ _ _)
        refine x_iload dL_law_547 rfl (?_ : Ex _ _ 549 _ _ _ _ _)
        refine x_iconst dL_law_549 rfl (by decide) (?_ : Ex _ _ 550 _ _ _ _ _)
        obtain ⟨c188, h⟩ := chk_some h
        refine x_iadd dL_law_550 c188 (?_ : Ex _ _ 551 _ _ _ _ _)
        obtain ⟨⟨c189, c190, c191⟩, h⟩ := chk_some h
        refine x_sld c189 c190 c191 dL_law_551 (?_ : Ex _ _ 552 _ _ _ _ _)
        refine x_aload_n dL_law_552 rfl rfl (Or.inl rfl) (?_ : Ex _ _ 553 _ _ _ _ _)
        refine x_iload dL_law_553 rfl (?_ : Ex _ _ 555 _ _ _ _ _)
        refine x_iconst dL_law_555 rfl (by decide) (?_ : Ex _ _ 556 _ _ _ _ _)
        obtain ⟨c192, h⟩ := chk_some h
        refine x_iadd dL_law_556 c192 (?_ : Ex _ _ 557 _ _ _ _ _)
        obtain ⟨⟨c193, c194, c195⟩, h⟩ := chk_some h
        refine x_sld c193 c194 c195 dL_law_557 (?_ : Ex _ _ 558 _ _ _ _ _)
        refine x_aload_n dL_law_558 rfl rfl (Or.inl rfl) (?_ : Ex _ _ 559 _ _ _ _ _)
        refine x_iload dL_law_559 rfl (?_ : Ex _ _ 561 _ _ _ _ _)
        refine x_iconst dL_law_561 rfl (by decide) (?_ : Ex _ _ 562 _ _ _ _ _)
        obtain ⟨c196, h⟩ := chk_some h
        refine x_iadd dL_law_562 c196 (?_ : Ex _ _ 563 _ _ _ _ _)
        obtain ⟨⟨c197, c198, c199⟩, h⟩ := chk_some h
        refine x_sld c197 c198 c199 dL_law_563 (?_ : Ex _ _ 564 _ _ _ _ _)
        obtain ⟨c200, h⟩ := chk_some h
        obtain ⟨v201, m202, g203, h⟩ := cal_some h
        refine cV3 (e_X12_signal (d + 43) g203) (contN (by decide) (?_ : Ex _ _ 567 _ _ _ _ _)) og_X12_signal rfl ml_RL_144 12 rfl rfl c200 im_X12_signal se_X12_signal (Nat.le_of_ble_eq_true rfl) dL_law_564
        refine x_istore (ls2 := [(7, 0), (21, l1), (22, l2), (300001, l3), (0, l4), (0, v185), (0, v201)]) dL_law_567 (Nat.le_of_ble_eq_true rfl) rfl (?_ : Ex _ _ 569 _ _ _ _ _)
        refine x_aload_n dL_law_569 rfl rfl (Or.inr (by decide)) (?_ : Ex _ _ 570 _ _ _ _ _)
        obtain ⟨v204, m205, g206, h⟩ := cal_some h
        refine cV0 (e_X12_thrown (d + 46) g206) (contN (by decide) (?_ : Ex _ _ 573 _ _ _ _ _)) og_X12_thrown rfl ml_RL_124 12 rfl rfl c200 im_X12_thrown se_X12_thrown (Nat.le_of_ble_eq_true rfl) dL_law_570
        refine x_iload dL_law_573 rfl (?_ : Ex _ _ 575 _ _ _ _ _)
        rcases ite_some h with ⟨b207, h⟩ | ⟨b207, h⟩
        · refine x_icmp_eq (tgt := 580) dL_law_575 rfl b207 (?_ : Ex _ _ 580 _ _ _ _ _)
          refine x_iload dL_law_580 rfl (?_ : Ex _ _ 582 _ _ _ _ _)
          rcases ite_some h with ⟨b208, h⟩ | ⟨b208, h⟩
          · refine x_if_neN dL_law_582 (by decide) (fun hh => hh b208) (?_ : Ex _ _ 585 _ _ _ _ _)
            refine x_aload_n dL_law_585 rfl rfl (Or.inr (by decide)) (?_ : Ex _ _ 586 _ _ _ _ _)
            refine x_iconst dL_law_586 rfl (by decide) (?_ : Ex _ _ 587 _ _ _ _ _)
            obtain ⟨c210, h⟩ := chk_some h
            refine ld_l_1 c210 (by decide) (by decide) dL_law_587 (?_ : Ex _ _ 588 _ _ _ _ _)
            refine x_iload dL_law_588 rfl (?_ : Ex _ _ 590 _ _ _ _ _)
            rcases ite_some h with ⟨b211, h⟩ | ⟨b211, h⟩
            · refine x_if_eq (tgt := 597) dL_law_590 rfl b211 (?_ : Ex _ _ 597 _ _ _ _ _)
              refine x_lconst dL_law_597 kl_0 (by decide) (?_ : Ex _ _ 598 _ _ _ _ _)
              refine Ex.wk (ls2 := [(7, 0), (21, l1), (22, l2), (300001, l3), (0, l4), (3, 0), (3, 0)]) ⟨Or.inr rfl, Or.inr rfl, Or.inr rfl, Or.inr rfl, Or.inr rfl, Or.inl rfl, Or.inl rfl, trivial⟩ ?_
              exact e_L_law_598 d ih h
            · refine x_if_eqN dL_law_590 (by decide) b211 (?_ : Ex _ _ 593 _ _ _ _ _)
              refine x_lconst dL_law_593 kl_1 (by decide) (?_ : Ex _ _ 594 _ _ _ _ _)
              refine x_goto (tgt := 598) dL_law_594 rfl (?_ : Ex _ _ 598 _ _ _ _ _)
              refine Ex.wk (ls2 := [(7, 0), (21, l1), (22, l2), (300001, l3), (0, l4), (3, 0), (3, 0)]) ⟨Or.inr rfl, Or.inr rfl, Or.inr rfl, Or.inr rfl, Or.inr rfl, Or.inl rfl, Or.inl rfl, trivial⟩ ?_
              exact e_L_law_598 d ih h
          · refine x_if_ne (tgt := 604) dL_law_582 rfl b208 (?_ : Ex _ _ 604 _ _ _ _ _)
            refine x_goto (tgt := 2241) dL_law_604 rfl (?_ : Ex _ _ 2241 _ _ _ _ _)
            obtain ⟨c209, h⟩ := chk_some h
            refine x_iinc (ls2 := [(7, 0), (21, l1), (22, l2), (300001, l3), (0, (l4 + 5)), (0, v185), (0, v201)]) dL_law_2241 rfl c209 rfl (?_ : Ex _ _ 2244 _ _ _ _ _)
            refine x_goto (tgt := 23) dL_law_2244 rfl (?_ : Ex _ _ 23 _ _ _ _ _)
            refine Ex.wk (ls2 := [(7, 0), (21, l1), (22, l2), (300001, l3), (0, (l4 + 5)), (3, 0), (3, 0)]) ⟨Or.inr rfl, Or.inr rfl, Or.inr rfl, Or.inr rfl, Or.inr rfl, Or.inl rfl, Or.inl rfl, trivial⟩ ?_
            exact ih h
        · refine x_icmp_eqN dL_law_575 (by decide) b207 (?_ : Ex _ _ 578 _ _ _ _ _)
          refine x_iconst dL_law_578 rfl (by decide) (?_ : Ex _ _ 579 _ _ _ _ _)
          cases h
          exact x_ret dL_law_579 (by decide : (0 : Int) ≠ 3)
      rcases ite_some h with ⟨b212, h⟩ | ⟨b212, h⟩
      · refine y_tableAt (j := 6) (off := 568) (tgt := 607) b212 dL_law_39 (by decide) (by decide) rfl rfl (?_ : Ex _ _ 607 _ _ _ _ _)
        refine x_aload_n dL_law_607 rfl rfl (Or.inr (by decide)) (?_ : Ex _ _ 608 _ _ _ _ _)
        refine x_aload_n dL_law_608 rfl rfl (Or.inl rfl) (?_ : Ex _ _ 609 _ _ _ _ _)
        refine x_iload dL_law_609 rfl (?_ : Ex _ _ 611 _ _ _ _ _)
        refine x_iconst dL_law_611 rfl (by decide) (?_ : Ex _ _ 612 _ _ _ _ _)
        obtain ⟨c213, h⟩ := chk_some h
        refine x_iadd dL_law_612 c213 (?_ : Ex _ _ 613 _ _ _ _ _)
        obtain ⟨⟨c214, c215, c216⟩, h⟩ := chk_some h
        refine x_sld c214 c215 c216 dL_law_613 (?_ : Ex _ _ 614 _ _ _ _ _)
        refine x_aload_n dL_law_614 rfl rfl (Or.inr (by decide)) (?_ : Ex _ _ 615 _ _ _ _ _)
        obtain ⟨v217, m218, g219, h⟩ := cal_some h
        refine cW3 (e_L_cancel (d + 42) g219) (by decide) (?_ : Ex _ _ 618 _ _ _ _ _) og_L_cancel (List.cons_ne_nil _ _) ml_RL_145 sm_L_cancel (Nat.le_of_ble_eq_true rfl) dL_law_615
        refine x_istore (ls2 := [(7, 0), (21, l1), (22, l2), (300001, l3), (0, l4), (0, v217), (3, 0)]) dL_law_618 (Nat.le_of_ble_eq_true rfl) rfl (?_ : Ex _ _ 620 _ _ _ _ _)
        refine x_aload_n dL_law_620 rfl rfl (Or.inr (by decide)) (?_ : Ex _ _ 621 _ _ _ _ _)
        refine x_aload_n dL_law_621 rfl rfl (Or.inl rfl) (?_ : Ex _ _ 622 _ _ _ _ _)
        refine x_iload dL_law_622 rfl (?_ : Ex _ _ 624 _ _ _ _ _)
        refine x_iconst dL_law_624 rfl (by decide) (?_ : Ex _ _ 625 _ _ _ _ _)
        obtain ⟨c220, h⟩ := chk_some h
        refine x_iadd dL_law_625 c220 (?_ : Ex _ _ 626 _ _ _ _ _)
        obtain ⟨⟨c221, c222, c223⟩, h⟩ := chk_some h
        refine x_sld c221 c222 c223 dL_law_626 (?_ : Ex _ _ 627 _ _ _ _ _)
        obtain ⟨c224, h⟩ := chk_some h
        obtain ⟨v225, m226, g227, h⟩ := cal_some h
        refine cV1 (e_X12_cancel (d + 42) g227) (contN (by decide) (?_ : Ex _ _ 630 _ _ _ _ _)) og_X12_cancel rfl ml_RL_147 12 rfl rfl c224 im_X12_cancel se_X12_cancel (Nat.le_of_ble_eq_true rfl) dL_law_627
        refine x_istore (ls2 := [(7, 0), (21, l1), (22, l2), (300001, l3), (0, l4), (0, v217), (0, v225)]) dL_law_630 (Nat.le_of_ble_eq_true rfl) rfl (?_ : Ex _ _ 632 _ _ _ _ _)
        refine x_aload_n dL_law_632 rfl rfl (Or.inr (by decide)) (?_ : Ex _ _ 633 _ _ _ _ _)
        obtain ⟨v228, m229, g230, h⟩ := cal_some h
        refine cV0 (e_X12_thrown (d + 46) g230) (contN (by decide) (?_ : Ex _ _ 636 _ _ _ _ _)) og_X12_thrown rfl ml_RL_124 12 rfl rfl c224 im_X12_thrown se_X12_thrown (Nat.le_of_ble_eq_true rfl) dL_law_633
        refine x_iload dL_law_636 rfl (?_ : Ex _ _ 638 _ _ _ _ _)
        rcases ite_some h with ⟨b231, h⟩ | ⟨b231, h⟩
        · refine x_icmp_eq (tgt := 643) dL_law_638 rfl b231 (?_ : Ex _ _ 643 _ _ _ _ _)
          refine x_iload dL_law_643 rfl (?_ : Ex _ _ 645 _ _ _ _ _)
          rcases ite_some h with ⟨b232, h⟩ | ⟨b232, h⟩
          · refine x_if_neN dL_law_645 (by decide) (fun hh => hh b232) (?_ : Ex _ _ 648 _ _ _ _ _)
            refine x_aload_n dL_law_648 rfl rfl (Or.inr (by decide)) (?_ : Ex _ _ 649 _ _ _ _ _)
            refine x_iconst dL_law_649 rfl (by decide) (?_ : Ex _ _ 650 _ _ _ _ _)
            obtain ⟨c234, h⟩ := chk_some h
            refine ld_l_1 c234 (by decide) (by decide) dL_law_650 (?_ : Ex _ _ 651 _ _ _ _ _)
            refine x_iload dL_law_651 rfl (?_ : Ex _ _ 653 _ _ _ _ _)
            rcases ite_some h with ⟨b235, h⟩ | ⟨b235, h⟩
            · refine x_if_eq (tgt := 660) dL_law_653 rfl b235 (?_ : Ex _ _ 660 _ _ _ _ _)
              refine x_lconst dL_law_660 kl_0 (by decide) (?_ : Ex _ _ 661 _ _ _ _ _)
              refine Ex.wk (ls2 := [(7, 0), (21, l1), (22, l2), (300001, l3), (0, l4), (3, 0), (3, 0)]) ⟨Or.inr rfl, Or.inr rfl, Or.inr rfl, Or.inr rfl, Or.inr rfl, Or.inl rfl, Or.inl rfl, trivial⟩ ?_
              exact e_L_law_661 d ih h
            · refine x_if_eqN dL_law_653 (by decide) b235 (?_ : Ex _ _ 656 _ _ _ _ _)
              refine x_lconst dL_law_656 kl_1 (by decide) (?_ : Ex _ _ 657 _ _ _ _ _)
              refine x_goto (tgt := 661) dL_law_657 rfl (?_ : Ex _ _ 661 _ _ _ _ _)
              refine Ex.wk (ls2 := [(7, 0), (21, l1), (22, l2), (300001, l3), (0, l4), (3, 0), (3, 0)]) ⟨Or.inr rfl, Or.inr rfl, Or.inr rfl, Or.inr rfl, Or.inr rfl, Or.inl rfl, Or.inl rfl, trivial⟩ ?_
              exact e_L_law_661 d ih h
          · refine x_if_ne (tgt := 667) dL_law_645 rfl b232 (?_ : Ex _ _ 667 _ _ _ _ _)
            refine x_goto (tgt := 2241) dL_law_667 rfl (?_ : Ex _ _ 2241 _ _ _ _ _)
            obtain ⟨c233, h⟩ := chk_some h
            refine x_iinc (ls2 := [(7, 0), (21, l1), (22, l2), (300001, l3), (0, (l4 + 5)), (0, v217), (0, v225)]) dL_law_2241 rfl c233 rfl (?_ : Ex _ _ 2244 _ _ _ _ _)
            refine x_goto (tgt := 23) dL_law_2244 rfl (?_ : Ex _ _ 23 _ _ _ _ _)
            refine Ex.wk (ls2 := [(7, 0), (21, l1), (22, l2), (300001, l3), (0, (l4 + 5)), (3, 0), (3, 0)]) ⟨Or.inr rfl, Or.inr rfl, Or.inr rfl, Or.inr rfl, Or.inr rfl, Or.inl rfl, Or.inl rfl, trivial⟩ ?_
            exact ih h
        · refine x_icmp_eqN dL_law_638 (by decide) b231 (?_ : Ex _ _ 641 _ _ _ _ _)
          refine x_iconst dL_law_641 rfl (by decide) (?_ : Ex _ _ 642 _ _ _ _ _)
          cases h
          exact x_ret dL_law_642 (by decide : (0 : Int) ≠ 3)
      rcases ite_some h with ⟨b236, h⟩ | ⟨b236, h⟩
      · refine y_tableAt (j := 7) (off := 631) (tgt := 670) b236 dL_law_39 (by decide) (by decide) rfl rfl (?_ : Ex _ _ 670 _ _ _ _ _)
        refine x_aload_n dL_law_670 rfl rfl (Or.inr (by decide)) (?_ : Ex _ _ 671 _ _ _ _ _)
        refine x_aload_n dL_law_671 rfl rfl (Or.inl rfl) (?_ : Ex _ _ 672 _ _ _ _ _)
        refine x_iload dL_law_672 rfl (?_ : Ex _ _ 674 _ _ _ _ _)
        refine x_iconst dL_law_674 rfl (by decide) (?_ : Ex _ _ 675 _ _ _ _ _)
        obtain ⟨c237, h⟩ := chk_some h
        refine x_iadd dL_law_675 c237 (?_ : Ex _ _ 676 _ _ _ _ _)
        obtain ⟨⟨c238, c239, c240⟩, h⟩ := chk_some h
        refine x_sld c238 c239 c240 dL_law_676 (?_ : Ex _ _ 677 _ _ _ _ _)
        refine x_aload_n dL_law_677 rfl rfl (Or.inl rfl) (?_ : Ex _ _ 678 _ _ _ _ _)
        refine x_iload dL_law_678 rfl (?_ : Ex _ _ 680 _ _ _ _ _)
        refine x_iconst dL_law_680 rfl (by decide) (?_ : Ex _ _ 681 _ _ _ _ _)
        obtain ⟨c241, h⟩ := chk_some h
        refine x_iadd dL_law_681 c241 (?_ : Ex _ _ 682 _ _ _ _ _)
        obtain ⟨⟨c242, c243, c244⟩, h⟩ := chk_some h
        refine x_sld c242 c243 c244 dL_law_682 (?_ : Ex _ _ 683 _ _ _ _ _)
        refine x_aload_n dL_law_683 rfl rfl (Or.inr (by decide)) (?_ : Ex _ _ 684 _ _ _ _ _)
        obtain ⟨v245, m246, g247, h⟩ := cal_some h
        refine cW4 (e_L_decide d g247) (by decide) (?_ : Ex _ _ 687 _ _ _ _ _) og_L_decide (List.cons_ne_nil _ _) ml_RL_148 sm_L_decide (Nat.le_of_ble_eq_true rfl) dL_law_684
        refine x_istore (ls2 := [(7, 0), (21, l1), (22, l2), (300001, l3), (0, l4), (0, v245), (3, 0)]) dL_law_687 (Nat.le_of_ble_eq_true rfl) rfl (?_ : Ex _ _ 689 _ _ _ _ _)
        refine x_aload_n dL_law_689 rfl rfl (Or.inr (by decide)) (?_ : Ex _ _ 690 _ _ _ _ _)
        refine x_aload_n dL_law_690 rfl rfl (Or.inl rfl) (?_ : Ex _ _ 691 _ _ _ _ _)
        refine x_iload dL_law_691 rfl (?_ : Ex _ _ 693 _ _ _ _ _)
        refine x_iconst dL_law_693 rfl (by decide) (?_ : Ex _ _ 694 _ _ _ _ _)
        obtain ⟨c248, h⟩ := chk_some h
        refine x_iadd dL_law_694 c248 (?_ : Ex _ _ 695 _ _ _ _ _)
        obtain ⟨⟨c249, c250, c251⟩, h⟩ := chk_some h
        refine x_sld c249 c250 c251 dL_law_695 (?_ : Ex _ _ 696 _ _ _ _ _)
        refine x_aload_n dL_law_696 rfl rfl (Or.inl rfl) (?_ : Ex _ _ 697 _ _ _ _ _)
        refine x_iload dL_law_697 rfl (?_ : Ex _ _ 699 _ _ _ _ _)
        refine x_iconst dL_law_699 rfl (by decide) (?_ : Ex _ _ 700 _ _ _ _ _)
        obtain ⟨c252, h⟩ := chk_some h
        refine x_iadd dL_law_700 c252 (?_ : Ex _ _ 701 _ _ _ _ _)
        obtain ⟨⟨c253, c254, c255⟩, h⟩ := chk_some h
        refine x_sld c253 c254 c255 dL_law_701 (?_ : Ex _ _ 702 _ _ _ _ _)
        obtain ⟨c256, h⟩ := chk_some h
        obtain ⟨v257, m258, g259, h⟩ := cal_some h
        refine cV2 (e_X12_decide (d + 35) g259) (contN (by decide) (?_ : Ex _ _ 705 _ _ _ _ _)) og_X12_decide rfl ml_RL_151 12 rfl rfl c256 im_X12_decide se_X12_decide (Nat.le_of_ble_eq_true rfl) dL_law_702
        refine x_istore (ls2 := [(7, 0), (21, l1), (22, l2), (300001, l3), (0, l4), (0, v245), (0, v257)]) dL_law_705 (Nat.le_of_ble_eq_true rfl) rfl (?_ : Ex _ _ 707 _ _ _ _ _)
        refine x_aload_n dL_law_707 rfl rfl (Or.inr (by decide)) (?_ : Ex _ _ 708 _ _ _ _ _)
        obtain ⟨v260, m261, g262, h⟩ := cal_some h
        refine cV0 (e_X12_thrown (d + 46) g262) (contN (by decide) (?_ : Ex _ _ 711 _ _ _ _ _)) og_X12_thrown rfl ml_RL_124 12 rfl rfl c256 im_X12_thrown se_X12_thrown (Nat.le_of_ble_eq_true rfl) dL_law_708
        refine x_iload dL_law_711 rfl (?_ : Ex _ _ 713 _ _ _ _ _)
        rcases ite_some h with ⟨b263, h⟩ | ⟨b263, h⟩
        · refine x_icmp_eq (tgt := 718) dL_law_713 rfl b263 (?_ : Ex _ _ 718 _ _ _ _ _)
          refine x_iload dL_law_718 rfl (?_ : Ex _ _ 720 _ _ _ _ _)
          rcases ite_some h with ⟨b264, h⟩ | ⟨b264, h⟩
          · refine x_if_neN dL_law_720 (by decide) (fun hh => hh b264) (?_ : Ex _ _ 723 _ _ _ _ _)
            refine x_aload_n dL_law_723 rfl rfl (Or.inr (by decide)) (?_ : Ex _ _ 724 _ _ _ _ _)
            refine x_iconst dL_law_724 rfl (by decide) (?_ : Ex _ _ 725 _ _ _ _ _)
            obtain ⟨c266, h⟩ := chk_some h
            refine ld_l_1 c266 (by decide) (by decide) dL_law_725 (?_ : Ex _ _ 726 _ _ _ _ _)
            refine x_iload dL_law_726 rfl (?_ : Ex _ _ 728 _ _ _ _ _)
            refine x_i2l dL_law_728 (?_ : Ex _ _ 729 _ _ _ _ _)
            refine x_lcmp dL_law_729 (?_ : Ex _ _ 730 _ _ _ _ _)
            rcases ite_some h with ⟨b267, h⟩ | ⟨b267, h⟩
            · refine x_if_eq (tgt := 735) dL_law_730 rfl b267 (?_ : Ex _ _ 735 _ _ _ _ _)
              refine x_goto (tgt := 2241) dL_law_735 rfl (?_ : Ex _ _ 2241 _ _ _ _ _)
              obtain ⟨c268, h⟩ := chk_some h
              refine x_iinc (ls2 := [(7, 0), (21, l1), (22, l2), (300001, l3), (0, (l4 + 5)), (0, v245), (0, v257)]) dL_law_2241 rfl c268 rfl (?_ : Ex _ _ 2244 _ _ _ _ _)
              refine x_goto (tgt := 23) dL_law_2244 rfl (?_ : Ex _ _ 23 _ _ _ _ _)
              refine Ex.wk (ls2 := [(7, 0), (21, l1), (22, l2), (300001, l3), (0, (l4 + 5)), (3, 0), (3, 0)]) ⟨Or.inr rfl, Or.inr rfl, Or.inr rfl, Or.inr rfl, Or.inr rfl, Or.inl rfl, Or.inl rfl, trivial⟩ ?_
              exact ih h
            · refine x_if_eqN dL_law_730 (by decide) b267 (?_ : Ex _ _ 733 _ _ _ _ _)
              refine x_iconst dL_law_733 rfl (by decide) (?_ : Ex _ _ 734 _ _ _ _ _)
              cases h
              exact x_ret dL_law_734 (by decide : (0 : Int) ≠ 3)
          · refine x_if_ne (tgt := 735) dL_law_720 rfl b264 (?_ : Ex _ _ 735 _ _ _ _ _)
            refine x_goto (tgt := 2241) dL_law_735 rfl (?_ : Ex _ _ 2241 _ _ _ _ _)
            obtain ⟨c265, h⟩ := chk_some h
            refine x_iinc (ls2 := [(7, 0), (21, l1), (22, l2), (300001, l3), (0, (l4 + 5)), (0, v245), (0, v257)]) dL_law_2241 rfl c265 rfl (?_ : Ex _ _ 2244 _ _ _ _ _)
            refine x_goto (tgt := 23) dL_law_2244 rfl (?_ : Ex _ _ 23 _ _ _ _ _)
            refine Ex.wk (ls2 := [(7, 0), (21, l1), (22, l2), (300001, l3), (0, (l4 + 5)), (3, 0), (3, 0)]) ⟨Or.inr rfl, Or.inr rfl, Or.inr rfl, Or.inr rfl, Or.inr rfl, Or.inl rfl, Or.inl rfl, trivial⟩ ?_
            exact ih h
        · refine x_icmp_eqN dL_law_713 (by decide) b263 (?_ : Ex _ _ 716 _ _ _ _ _)
          refine x_iconst dL_law_716 rfl (by decide) (?_ : Ex _ _ 717 _ _ _ _ _)
          cases h
          exact x_ret dL_law_717 (by decide : (0 : Int) ≠ 3)
      rcases ite_some h with ⟨b269, h⟩ | ⟨b269, h⟩
      · refine y_tableAt (j := 8) (off := 699) (tgt := 738) b269 dL_law_39 (by decide) (by decide) rfl rfl (?_ : Ex _ _ 738 _ _ _ _ _)
        refine x_aload_n dL_law_738 rfl rfl (Or.inr (by decide)) (?_ : Ex _ _ 739 _ _ _ _ _)
        refine x_aload_n dL_law_739 rfl rfl (Or.inl rfl) (?_ : Ex _ _ 740 _ _ _ _ _)
        refine x_iload dL_law_740 rfl (?_ : Ex _ _ 742 _ _ _ _ _)
        refine x_iconst dL_law_742 rfl (by decide) (?_ : Ex _ _ 743 _ _ _ _ _)
        obtain ⟨c270, h⟩ := chk_some h
        refine x_iadd dL_law_743 c270 (?_ : Ex _ _ 744 _ _ _ _ _)
        obtain ⟨⟨c271, c272, c273⟩, h⟩ := chk_some h
        refine x_sld c271 c272 c273 dL_law_744 (?_ : Ex _ _ 745 _ _ _ _ _)
        refine x_aload_n dL_law_745 rfl rfl (Or.inl rfl) (?_ : Ex _ _ 746 _ _ _ _ _)
        refine x_iload dL_law_746 rfl (?_ : Ex _ _ 748 _ _ _ _ _)
        refine x_iconst dL_law_748 rfl (by decide) (?_ : Ex _ _ 749 _ _ _ _ _)
        obtain ⟨c274, h⟩ := chk_some h
        refine x_iadd dL_law_749 c274 (?_ : Ex _ _ 750 _ _ _ _ _)
        obtain ⟨⟨c275, c276, c277⟩, h⟩ := chk_some h
        refine x_sld c275 c276 c277 dL_law_750 (?_ : Ex _ _ 751 _ _ _ _ _)
        refine x_aload_n dL_law_751 rfl rfl (Or.inr (by decide)) (?_ : Ex _ _ 752 _ _ _ _ _)
        obtain ⟨v278, m279, g280, h⟩ := cal_some h
        refine cW4 (e_L_setRate (d + 42) g280) (by decide) (?_ : Ex _ _ 755 _ _ _ _ _) og_L_setRate (List.cons_ne_nil _ _) ml_RL_152 sm_L_setRate (Nat.le_of_ble_eq_true rfl) dL_law_752
        refine x_istore (ls2 := [(7, 0), (21, l1), (22, l2), (300001, l3), (0, l4), (0, v278), (3, 0)]) dL_law_755 (Nat.le_of_ble_eq_true rfl) rfl (?_ : Ex _ _ 757 _ _ _ _ _)
        refine x_aload_n dL_law_757 rfl rfl (Or.inr (by decide)) (?_ : Ex _ _ 758 _ _ _ _ _)
        refine x_aload_n dL_law_758 rfl rfl (Or.inl rfl) (?_ : Ex _ _ 759 _ _ _ _ _)
        refine x_iload dL_law_759 rfl (?_ : Ex _ _ 761 _ _ _ _ _)
        refine x_iconst dL_law_761 rfl (by decide) (?_ : Ex _ _ 762 _ _ _ _ _)
        obtain ⟨c281, h⟩ := chk_some h
        refine x_iadd dL_law_762 c281 (?_ : Ex _ _ 763 _ _ _ _ _)
        obtain ⟨⟨c282, c283, c284⟩, h⟩ := chk_some h
        refine x_sld c282 c283 c284 dL_law_763 (?_ : Ex _ _ 764 _ _ _ _ _)
        refine x_aload_n dL_law_764 rfl rfl (Or.inl rfl) (?_ : Ex _ _ 765 _ _ _ _ _)
        refine x_iload dL_law_765 rfl (?_ : Ex _ _ 767 _ _ _ _ _)
        refine x_iconst dL_law_767 rfl (by decide) (?_ : Ex _ _ 768 _ _ _ _ _)
        obtain ⟨c285, h⟩ := chk_some h
        refine x_iadd dL_law_768 c285 (?_ : Ex _ _ 769 _ _ _ _ _)
        obtain ⟨⟨c286, c287, c288⟩, h⟩ := chk_some h
        refine x_sld c286 c287 c288 dL_law_769 (?_ : Ex _ _ 770 _ _ _ _ _)
        obtain ⟨c289, h⟩ := chk_some h
        obtain ⟨v290, m291, g292, h⟩ := cal_some h
        refine cV2 (e_X12_setRate (d + 44) g292) (contN (by decide) (?_ : Ex _ _ 773 _ _ _ _ _)) og_X12_setRate rfl ml_RL_154 12 rfl rfl c289 im_X12_setRate se_X12_setRate (Nat.le_of_ble_eq_true rfl) dL_law_770
        refine x_istore (ls2 := [(7, 0), (21, l1), (22, l2), (300001, l3), (0, l4), (0, v278), (0, v290)]) dL_law_773 (Nat.le_of_ble_eq_true rfl) rfl (?_ : Ex _ _ 775 _ _ _ _ _)
        refine x_aload_n dL_law_775 rfl rfl (Or.inr (by decide)) (?_ : Ex _ _ 776 _ _ _ _ _)
        obtain ⟨v293, m294, g295, h⟩ := cal_some h
        refine cV0 (e_X12_thrown (d + 46) g295) (contN (by decide) (?_ : Ex _ _ 779 _ _ _ _ _)) og_X12_thrown rfl ml_RL_124 12 rfl rfl c289 im_X12_thrown se_X12_thrown (Nat.le_of_ble_eq_true rfl) dL_law_776
        refine x_iload dL_law_779 rfl (?_ : Ex _ _ 781 _ _ _ _ _)
        rcases ite_some h with ⟨b296, h⟩ | ⟨b296, h⟩
        · refine x_icmp_eq (tgt := 786) dL_law_781 rfl b296 (?_ : Ex _ _ 786 _ _ _ _ _)
          refine x_iload dL_law_786 rfl (?_ : Ex _ _ 788 _ _ _ _ _)
          rcases ite_some h with ⟨b297, h⟩ | ⟨b297, h⟩
          · refine x_if_neN dL_law_788 (by decide) (fun hh => hh b297) (?_ : Ex _ _ 791 _ _ _ _ _)
            refine x_aload_n dL_law_791 rfl rfl (Or.inr (by decide)) (?_ : Ex _ _ 792 _ _ _ _ _)
            refine x_iconst dL_law_792 rfl (by decide) (?_ : Ex _ _ 793 _ _ _ _ _)
            obtain ⟨c299, h⟩ := chk_some h
            refine ld_l_1 c299 (by decide) (by decide) dL_law_793 (?_ : Ex _ _ 794 _ _ _ _ _)
            refine x_iload dL_law_794 rfl (?_ : Ex _ _ 796 _ _ _ _ _)
            refine x_i2l dL_law_796 (?_ : Ex _ _ 797 _ _ _ _ _)
            refine x_lcmp dL_law_797 (?_ : Ex _ _ 798 _ _ _ _ _)
            rcases ite_some h with ⟨b300, h⟩ | ⟨b300, h⟩
            · refine x_if_eq (tgt := 803) dL_law_798 rfl b300 (?_ : Ex _ _ 803 _ _ _ _ _)
              refine x_goto (tgt := 2241) dL_law_803 rfl (?_ : Ex _ _ 2241 _ _ _ _ _)
              obtain ⟨c301, h⟩ := chk_some h
              refine x_iinc (ls2 := [(7, 0), (21, l1), (22, l2), (300001, l3), (0, (l4 + 5)), (0, v278), (0, v290)]) dL_law_2241 rfl c301 rfl (?_ : Ex _ _ 2244 _ _ _ _ _)
              refine x_goto (tgt := 23) dL_law_2244 rfl (?_ : Ex _ _ 23 _ _ _ _ _)
              refine Ex.wk (ls2 := [(7, 0), (21, l1), (22, l2), (300001, l3), (0, (l4 + 5)), (3, 0), (3, 0)]) ⟨Or.inr rfl, Or.inr rfl, Or.inr rfl, Or.inr rfl, Or.inr rfl, Or.inl rfl, Or.inl rfl, trivial⟩ ?_
              exact ih h
            · refine x_if_eqN dL_law_798 (by decide) b300 (?_ : Ex _ _ 801 _ _ _ _ _)
              refine x_iconst dL_law_801 rfl (by decide) (?_ : Ex _ _ 802 _ _ _ _ _)
              cases h
              exact x_ret dL_law_802 (by decide : (0 : Int) ≠ 3)
          · refine x_if_ne (tgt := 803) dL_law_788 rfl b297 (?_ : Ex _ _ 803 _ _ _ _ _)
            refine x_goto (tgt := 2241) dL_law_803 rfl (?_ : Ex _ _ 2241 _ _ _ _ _)
            obtain ⟨c298, h⟩ := chk_some h
            refine x_iinc (ls2 := [(7, 0), (21, l1), (22, l2), (300001, l3), (0, (l4 + 5)), (0, v278), (0, v290)]) dL_law_2241 rfl c298 rfl (?_ : Ex _ _ 2244 _ _ _ _ _)
            refine x_goto (tgt := 23) dL_law_2244 rfl (?_ : Ex _ _ 23 _ _ _ _ _)
            refine Ex.wk (ls2 := [(7, 0), (21, l1), (22, l2), (300001, l3), (0, (l4 + 5)), (3, 0), (3, 0)]) ⟨Or.inr rfl, Or.inr rfl, Or.inr rfl, Or.inr rfl, Or.inr rfl, Or.inl rfl, Or.inl rfl, trivial⟩ ?_
            exact ih h
        · refine x_icmp_eqN dL_law_781 (by decide) b296 (?_ : Ex _ _ 784 _ _ _ _ _)
          refine x_iconst dL_law_784 rfl (by decide) (?_ : Ex _ _ 785 _ _ _ _ _)
          cases h
          exact x_ret dL_law_785 (by decide : (0 : Int) ≠ 3)
      rcases ite_some h with ⟨b302, h⟩ | ⟨b302, h⟩
      · refine y_tableAt (j := 9) (off := 767) (tgt := 806) b302 dL_law_39 (by decide) (by decide) rfl rfl (?_ : Ex _ _ 806 _ _ _ _ _)
        refine x_aload_n dL_law_806 rfl rfl (Or.inr (by decide)) (?_ : Ex _ _ 807 _ _ _ _ _)
        refine x_aload_n dL_law_807 rfl rfl (Or.inl rfl) (?_ : Ex _ _ 808 _ _ _ _ _)
        refine x_iload dL_law_808 rfl (?_ : Ex _ _ 810 _ _ _ _ _)
        refine x_iconst dL_law_810 rfl (by decide) (?_ : Ex _ _ 811 _ _ _ _ _)
        obtain ⟨c303, h⟩ := chk_some h
        refine x_iadd dL_law_811 c303 (?_ : Ex _ _ 812 _ _ _ _ _)
        obtain ⟨⟨c304, c305, c306⟩, h⟩ := chk_some h
        refine x_sld c304 c305 c306 dL_law_812 (?_ : Ex _ _ 813 _ _ _ _ _)
        refine x_aload_n dL_law_813 rfl rfl (Or.inl rfl) (?_ : Ex _ _ 814 _ _ _ _ _)
        refine x_iload dL_law_814 rfl (?_ : Ex _ _ 816 _ _ _ _ _)
        refine x_iconst dL_law_816 rfl (by decide) (?_ : Ex _ _ 817 _ _ _ _ _)
        obtain ⟨c307, h⟩ := chk_some h
        refine x_iadd dL_law_817 c307 (?_ : Ex _ _ 818 _ _ _ _ _)
        obtain ⟨⟨c308, c309, c310⟩, h⟩ := chk_some h
        refine x_sld c308 c309 c310 dL_law_818 (?_ : Ex _ _ 819 _ _ _ _ _)
        refine x_aload_n dL_law_819 rfl rfl (Or.inr (by decide)) (?_ : Ex _ _ 820 _ _ _ _ _)
        obtain ⟨v311, m312, g313, h⟩ := cal_some h
        refine cW4 (e_L_take (d + 42) g313) (by decide) (?_ : Ex _ _ 823 _ _ _ _ _) og_L_take (List.cons_ne_nil _ _) ml_RL_155 sm_L_take (Nat.le_of_ble_eq_true rfl) dL_law_820
        refine x_istore (ls2 := [(7, 0), (21, l1), (22, l2), (300001, l3), (0, l4), (0, v311), (3, 0)]) dL_law_823 (Nat.le_of_ble_eq_true rfl) rfl (?_ : Ex _ _ 825 _ _ _ _ _)
        refine x_aload_n dL_law_825 rfl rfl (Or.inr (by decide)) (?_ : Ex _ _ 826 _ _ _ _ _)
        refine x_aload_n dL_law_826 rfl rfl (Or.inl rfl) (?_ : Ex _ _ 827 _ _ _ _ _)
        refine x_iload dL_law_827 rfl (?_ : Ex _ _ 829 _ _ _ _ _)
        refine x_iconst dL_law_829 rfl (by decide) (?_ : Ex _ _ 830 _ _ _ _ _)
        obtain ⟨c314, h⟩ := chk_some h
        refine x_iadd dL_law_830 c314 (?_ : Ex _ _ 831 _ _ _ _ _)
        obtain ⟨⟨c315, c316, c317⟩, h⟩ := chk_some h
        refine x_sld c315 c316 c317 dL_law_831 (?_ : Ex _ _ 832 _ _ _ _ _)
        refine x_aload_n dL_law_832 rfl rfl (Or.inl rfl) (?_ : Ex _ _ 833 _ _ _ _ _)
        refine x_iload dL_law_833 rfl (?_ : Ex _ _ 835 _ _ _ _ _)
        refine x_iconst dL_law_835 rfl (by decide) (?_ : Ex _ _ 836 _ _ _ _ _)
        obtain ⟨c318, h⟩ := chk_some h
        refine x_iadd dL_law_836 c318 (?_ : Ex _ _ 837 _ _ _ _ _)
        obtain ⟨⟨c319, c320, c321⟩, h⟩ := chk_some h
        refine x_sld c319 c320 c321 dL_law_837 (?_ : Ex _ _ 838 _ _ _ _ _)
        obtain ⟨c322, h⟩ := chk_some h
        obtain ⟨v323, m324, g325, h⟩ := cal_some h
        refine cV2 (e_X12_take (d + 44) g325) (contN (by decide) (?_ : Ex _ _ 841 _ _ _ _ _)) og_X12_take rfl ml_RL_157 12 rfl rfl c322 im_X12_take se_X12_take (Nat.le_of_ble_eq_true rfl) dL_law_838
        refine x_istore (ls2 := [(7, 0), (21, l1), (22, l2), (300001, l3), (0, l4), (0, v311), (0, v323)]) dL_law_841 (Nat.le_of_ble_eq_true rfl) rfl (?_ : Ex _ _ 843 _ _ _ _ _)
        refine x_aload_n dL_law_843 rfl rfl (Or.inr (by decide)) (?_ : Ex _ _ 844 _ _ _ _ _)
        obtain ⟨v326, m327, g328, h⟩ := cal_some h
        refine cV0 (e_X12_thrown (d + 46) g328) (contN (by decide) (?_ : Ex _ _ 847 _ _ _ _ _)) og_X12_thrown rfl ml_RL_124 12 rfl rfl c322 im_X12_thrown se_X12_thrown (Nat.le_of_ble_eq_true rfl) dL_law_844
        refine x_iload dL_law_847 rfl (?_ : Ex _ _ 849 _ _ _ _ _)
        rcases ite_some h with ⟨b329, h⟩ | ⟨b329, h⟩
        · refine x_icmp_eq (tgt := 854) dL_law_849 rfl b329 (?_ : Ex _ _ 854 _ _ _ _ _)
          refine x_iload dL_law_854 rfl (?_ : Ex _ _ 856 _ _ _ _ _)
          rcases ite_some h with ⟨b330, h⟩ | ⟨b330, h⟩
          · refine x_if_neN dL_law_856 (by decide) (fun hh => hh b330) (?_ : Ex _ _ 859 _ _ _ _ _)
            refine x_aload_n dL_law_859 rfl rfl (Or.inr (by decide)) (?_ : Ex _ _ 860 _ _ _ _ _)
            refine x_iconst dL_law_860 rfl (by decide) (?_ : Ex _ _ 861 _ _ _ _ _)
            obtain ⟨c332, h⟩ := chk_some h
            refine ld_l_1 c332 (by decide) (by decide) dL_law_861 (?_ : Ex _ _ 862 _ _ _ _ _)
            refine x_iload dL_law_862 rfl (?_ : Ex _ _ 864 _ _ _ _ _)
            refine x_i2l dL_law_864 (?_ : Ex _ _ 865 _ _ _ _ _)
            refine x_lcmp dL_law_865 (?_ : Ex _ _ 866 _ _ _ _ _)
            rcases ite_some h with ⟨b333, h⟩ | ⟨b333, h⟩
            · refine x_if_eq (tgt := 871) dL_law_866 rfl b333 (?_ : Ex _ _ 871 _ _ _ _ _)
              refine x_goto (tgt := 2241) dL_law_871 rfl (?_ : Ex _ _ 2241 _ _ _ _ _)
              obtain ⟨c334, h⟩ := chk_some h
              refine x_iinc (ls2 := [(7, 0), (21, l1), (22, l2), (300001, l3), (0, (l4 + 5)), (0, v311), (0, v323)]) dL_law_2241 rfl c334 rfl (?_ : Ex _ _ 2244 _ _ _ _ _)
              refine x_goto (tgt := 23) dL_law_2244 rfl (?_ : Ex _ _ 23 _ _ _ _ _)
              refine Ex.wk (ls2 := [(7, 0), (21, l1), (22, l2), (300001, l3), (0, (l4 + 5)), (3, 0), (3, 0)]) ⟨Or.inr rfl, Or.inr rfl, Or.inr rfl, Or.inr rfl, Or.inr rfl, Or.inl rfl, Or.inl rfl, trivial⟩ ?_
              exact ih h
            · refine x_if_eqN dL_law_866 (by decide) b333 (?_ : Ex _ _ 869 _ _ _ _ _)
              refine x_iconst dL_law_869 rfl (by decide) (?_ : Ex _ _ 870 _ _ _ _ _)
              cases h
              exact x_ret dL_law_870 (by decide : (0 : Int) ≠ 3)
          · refine x_if_ne (tgt := 871) dL_law_856 rfl b330 (?_ : Ex _ _ 871 _ _ _ _ _)
            refine x_goto (tgt := 2241) dL_law_871 rfl (?_ : Ex _ _ 2241 _ _ _ _ _)
            obtain ⟨c331, h⟩ := chk_some h
            refine x_iinc (ls2 := [(7, 0), (21, l1), (22, l2), (300001, l3), (0, (l4 + 5)), (0, v311), (0, v323)]) dL_law_2241 rfl c331 rfl (?_ : Ex _ _ 2244 _ _ _ _ _)
            refine x_goto (tgt := 23) dL_law_2244 rfl (?_ : Ex _ _ 23 _ _ _ _ _)
            refine Ex.wk (ls2 := [(7, 0), (21, l1), (22, l2), (300001, l3), (0, (l4 + 5)), (3, 0), (3, 0)]) ⟨Or.inr rfl, Or.inr rfl, Or.inr rfl, Or.inr rfl, Or.inr rfl, Or.inl rfl, Or.inl rfl, trivial⟩ ?_
            exact ih h
        · refine x_icmp_eqN dL_law_849 (by decide) b329 (?_ : Ex _ _ 852 _ _ _ _ _)
          refine x_iconst dL_law_852 rfl (by decide) (?_ : Ex _ _ 853 _ _ _ _ _)
          cases h
          exact x_ret dL_law_853 (by decide : (0 : Int) ≠ 3)
      rcases ite_some h with ⟨b335, h⟩ | ⟨b335, h⟩
      · refine y_tableAt (j := 10) (off := 835) (tgt := 874) b335 dL_law_39 (by decide) (by decide) rfl rfl (?_ : Ex _ _ 874 _ _ _ _ _)
        refine x_aload_n dL_law_874 rfl rfl (Or.inr (by decide)) (?_ : Ex _ _ 875 _ _ _ _ _)
        refine x_aload_n dL_law_875 rfl rfl (Or.inl rfl) (?_ : Ex _ _ 876 _ _ _ _ _)
        refine x_iload dL_law_876 rfl (?_ : Ex _ _ 878 _ _ _ _ _)
        refine x_iconst dL_law_878 rfl (by decide) (?_ : Ex _ _ 879 _ _ _ _ _)
        obtain ⟨c336, h⟩ := chk_some h
        refine x_iadd dL_law_879 c336 (?_ : Ex _ _ 880 _ _ _ _ _)
        obtain ⟨⟨c337, c338, c339⟩, h⟩ := chk_some h
        refine x_sld c337 c338 c339 dL_law_880 (?_ : Ex _ _ 881 _ _ _ _ _)
        refine x_aload_n dL_law_881 rfl rfl (Or.inr (by decide)) (?_ : Ex _ _ 882 _ _ _ _ _)
        obtain ⟨v340, m341, g342, h⟩ := cal_some h
        refine cW3 (e_L_has (d + 43) g342) (by decide) (?_ : Ex _ _ 885 _ _ _ _ _) og_L_has (List.cons_ne_nil _ _) ml_RL_158 sm_L_has (Nat.le_of_ble_eq_true rfl) dL_law_882
        refine x_istore (ls2 := [(7, 0), (21, l1), (22, l2), (300001, l3), (0, l4), (0, v340), (3, 0)]) dL_law_885 (Nat.le_of_ble_eq_true rfl) rfl (?_ : Ex _ _ 887 _ _ _ _ _)
        refine x_aload_n dL_law_887 rfl rfl (Or.inr (by decide)) (?_ : Ex _ _ 888 _ _ _ _ _)
        refine x_aload_n dL_law_888 rfl rfl (Or.inl rfl) (?_ : Ex _ _ 889 _ _ _ _ _)
        refine x_iload dL_law_889 rfl (?_ : Ex _ _ 891 _ _ _ _ _)
        refine x_iconst dL_law_891 rfl (by decide) (?_ : Ex _ _ 892 _ _ _ _ _)
        obtain ⟨c343, h⟩ := chk_some h
        refine x_iadd dL_law_892 c343 (?_ : Ex _ _ 893 _ _ _ _ _)
        obtain ⟨⟨c344, c345, c346⟩, h⟩ := chk_some h
        refine x_sld c344 c345 c346 dL_law_893 (?_ : Ex _ _ 894 _ _ _ _ _)
        obtain ⟨c347, h⟩ := chk_some h
        obtain ⟨v348, m349, g350, h⟩ := cal_some h
        refine cV1 (e_X12_has (d + 44) g350) (contN (by decide) (?_ : Ex _ _ 897 _ _ _ _ _)) og_X12_has rfl ml_RL_160 12 rfl rfl c347 im_X12_has se_X12_has (Nat.le_of_ble_eq_true rfl) dL_law_894
        refine x_istore (ls2 := [(7, 0), (21, l1), (22, l2), (300001, l3), (0, l4), (0, v340), (0, v348)]) dL_law_897 (Nat.le_of_ble_eq_true rfl) rfl (?_ : Ex _ _ 899 _ _ _ _ _)
        refine x_aload_n dL_law_899 rfl rfl (Or.inr (by decide)) (?_ : Ex _ _ 900 _ _ _ _ _)
        obtain ⟨v351, m352, g353, h⟩ := cal_some h
        refine cV0 (e_X12_thrown (d + 46) g353) (contN (by decide) (?_ : Ex _ _ 903 _ _ _ _ _)) og_X12_thrown rfl ml_RL_124 12 rfl rfl c347 im_X12_thrown se_X12_thrown (Nat.le_of_ble_eq_true rfl) dL_law_900
        refine x_iload dL_law_903 rfl (?_ : Ex _ _ 905 _ _ _ _ _)
        rcases ite_some h with ⟨b354, h⟩ | ⟨b354, h⟩
        · refine x_icmp_eq (tgt := 910) dL_law_905 rfl b354 (?_ : Ex _ _ 910 _ _ _ _ _)
          refine x_iload dL_law_910 rfl (?_ : Ex _ _ 912 _ _ _ _ _)
          rcases ite_some h with ⟨b355, h⟩ | ⟨b355, h⟩
          · refine x_if_neN dL_law_912 (by decide) (fun hh => hh b355) (?_ : Ex _ _ 915 _ _ _ _ _)
            refine x_aload_n dL_law_915 rfl rfl (Or.inr (by decide)) (?_ : Ex _ _ 916 _ _ _ _ _)
            refine x_iconst dL_law_916 rfl (by decide) (?_ : Ex _ _ 917 _ _ _ _ _)
            obtain ⟨c357, h⟩ := chk_some h
            refine ld_l_1 c357 (by decide) (by decide) dL_law_917 (?_ : Ex _ _ 918 _ _ _ _ _)
            refine x_iload dL_law_918 rfl (?_ : Ex _ _ 920 _ _ _ _ _)
            refine x_i2l dL_law_920 (?_ : Ex _ _ 921 _ _ _ _ _)
            refine x_lcmp dL_law_921 (?_ : Ex _ _ 922 _ _ _ _ _)
            rcases ite_some h with ⟨b358, h⟩ | ⟨b358, h⟩
            · refine x_if_eq (tgt := 927) dL_law_922 rfl b358 (?_ : Ex _ _ 927 _ _ _ _ _)
              refine x_goto (tgt := 2241) dL_law_927 rfl (?_ : Ex _ _ 2241 _ _ _ _ _)
              obtain ⟨c359, h⟩ := chk_some h
              refine x_iinc (ls2 := [(7, 0), (21, l1), (22, l2), (300001, l3), (0, (l4 + 5)), (0, v340), (0, v348)]) dL_law_2241 rfl c359 rfl (?_ : Ex _ _ 2244 _ _ _ _ _)
              refine x_goto (tgt := 23) dL_law_2244 rfl (?_ : Ex _ _ 23 _ _ _ _ _)
              refine Ex.wk (ls2 := [(7, 0), (21, l1), (22, l2), (300001, l3), (0, (l4 + 5)), (3, 0), (3, 0)]) ⟨Or.inr rfl, Or.inr rfl, Or.inr rfl, Or.inr rfl, Or.inr rfl, Or.inl rfl, Or.inl rfl, trivial⟩ ?_
              exact ih h
            · refine x_if_eqN dL_law_922 (by decide) b358 (?_ : Ex _ _ 925 _ _ _ _ _)
              refine x_iconst dL_law_925 rfl (by decide) (?_ : Ex _ _ 926 _ _ _ _ _)
              cases h
              exact x_ret dL_law_926 (by decide : (0 : Int) ≠ 3)
          · refine x_if_ne (tgt := 927) dL_law_912 rfl b355 (?_ : Ex _ _ 927 _ _ _ _ _)
            refine x_goto (tgt := 2241) dL_law_927 rfl (?_ : Ex _ _ 2241 _ _ _ _ _)
            obtain ⟨c356, h⟩ := chk_some h
            refine x_iinc (ls2 := [(7, 0), (21, l1), (22, l2), (300001, l3), (0, (l4 + 5)), (0, v340), (0, v348)]) dL_law_2241 rfl c356 rfl (?_ : Ex _ _ 2244 _ _ _ _ _)
            refine x_goto (tgt := 23) dL_law_2244 rfl (?_ : Ex _ _ 23 _ _ _ _ _)
            refine Ex.wk (ls2 := [(7, 0), (21, l1), (22, l2), (300001, l3), (0, (l4 + 5)), (3, 0), (3, 0)]) ⟨Or.inr rfl, Or.inr rfl, Or.inr rfl, Or.inr rfl, Or.inr rfl, Or.inl rfl, Or.inl rfl, trivial⟩ ?_
            exact ih h
        · refine x_icmp_eqN dL_law_905 (by decide) b354 (?_ : Ex _ _ 908 _ _ _ _ _)
          refine x_iconst dL_law_908 rfl (by decide) (?_ : Ex _ _ 909 _ _ _ _ _)
          cases h
          exact x_ret dL_law_909 (by decide : (0 : Int) ≠ 3)
      rcases ite_some h with ⟨b360, h⟩ | ⟨b360, h⟩
      · refine y_tableAt (j := 11) (off := 891) (tgt := 930) b360 dL_law_39 (by decide) (by decide) rfl rfl (?_ : Ex _ _ 930 _ _ _ _ _)
        refine x_aload_n dL_law_930 rfl rfl (Or.inr (by decide)) (?_ : Ex _ _ 931 _ _ _ _ _)
        refine x_aload_n dL_law_931 rfl rfl (Or.inl rfl) (?_ : Ex _ _ 932 _ _ _ _ _)
        refine x_iload dL_law_932 rfl (?_ : Ex _ _ 934 _ _ _ _ _)
        refine x_iconst dL_law_934 rfl (by decide) (?_ : Ex _ _ 935 _ _ _ _ _)
        obtain ⟨c361, h⟩ := chk_some h
        refine x_iadd dL_law_935 c361 (?_ : Ex _ _ 936 _ _ _ _ _)
        obtain ⟨⟨c362, c363, c364⟩, h⟩ := chk_some h
        refine x_sld c362 c363 c364 dL_law_936 (?_ : Ex _ _ 937 _ _ _ _ _)
        refine x_aload_n dL_law_937 rfl rfl (Or.inr (by decide)) (?_ : Ex _ _ 938 _ _ _ _ _)
        obtain ⟨v365, m366, g367, h⟩ := cal_some h
        refine cW3 (e_L_beat (d + 43) g367) (by decide) (?_ : Ex _ _ 941 _ _ _ _ _) og_L_beat (List.cons_ne_nil _ _) ml_RL_161 sm_L_beat (Nat.le_of_ble_eq_true rfl) dL_law_938
        refine x_istore (ls2 := [(7, 0), (21, l1), (22, l2), (300001, l3), (0, l4), (0, v365), (3, 0)]) dL_law_941 (Nat.le_of_ble_eq_true rfl) rfl (?_ : Ex _ _ 943 _ _ _ _ _)
        refine x_aload_n dL_law_943 rfl rfl (Or.inr (by decide)) (?_ : Ex _ _ 944 _ _ _ _ _)
        refine x_aload_n dL_law_944 rfl rfl (Or.inl rfl) (?_ : Ex _ _ 945 _ _ _ _ _)
        refine x_iload dL_law_945 rfl (?_ : Ex _ _ 947 _ _ _ _ _)
        refine x_iconst dL_law_947 rfl (by decide) (?_ : Ex _ _ 948 _ _ _ _ _)
        obtain ⟨c368, h⟩ := chk_some h
        refine x_iadd dL_law_948 c368 (?_ : Ex _ _ 949 _ _ _ _ _)
        obtain ⟨⟨c369, c370, c371⟩, h⟩ := chk_some h
        refine x_sld c369 c370 c371 dL_law_949 (?_ : Ex _ _ 950 _ _ _ _ _)
        obtain ⟨c372, h⟩ := chk_some h
        obtain ⟨v373, m374, g375, h⟩ := cal_some h
        refine cV1 (e_X12_beat (d + 44) g375) (contN (by decide) (?_ : Ex _ _ 953 _ _ _ _ _)) og_X12_beat rfl ml_RL_163 12 rfl rfl c372 im_X12_beat se_X12_beat (Nat.le_of_ble_eq_true rfl) dL_law_950
        refine x_istore (ls2 := [(7, 0), (21, l1), (22, l2), (300001, l3), (0, l4), (0, v365), (0, v373)]) dL_law_953 (Nat.le_of_ble_eq_true rfl) rfl (?_ : Ex _ _ 955 _ _ _ _ _)
        refine x_aload_n dL_law_955 rfl rfl (Or.inr (by decide)) (?_ : Ex _ _ 956 _ _ _ _ _)
        obtain ⟨v376, m377, g378, h⟩ := cal_some h
        refine cV0 (e_X12_thrown (d + 46) g378) (contN (by decide) (?_ : Ex _ _ 959 _ _ _ _ _)) og_X12_thrown rfl ml_RL_124 12 rfl rfl c372 im_X12_thrown se_X12_thrown (Nat.le_of_ble_eq_true rfl) dL_law_956
        refine x_iload dL_law_959 rfl (?_ : Ex _ _ 961 _ _ _ _ _)
        rcases ite_some h with ⟨b379, h⟩ | ⟨b379, h⟩
        · refine x_icmp_eq (tgt := 966) dL_law_961 rfl b379 (?_ : Ex _ _ 966 _ _ _ _ _)
          refine x_iload dL_law_966 rfl (?_ : Ex _ _ 968 _ _ _ _ _)
          rcases ite_some h with ⟨b380, h⟩ | ⟨b380, h⟩
          · refine x_if_neN dL_law_968 (by decide) (fun hh => hh b380) (?_ : Ex _ _ 971 _ _ _ _ _)
            refine x_aload_n dL_law_971 rfl rfl (Or.inr (by decide)) (?_ : Ex _ _ 972 _ _ _ _ _)
            refine x_iconst dL_law_972 rfl (by decide) (?_ : Ex _ _ 973 _ _ _ _ _)
            obtain ⟨c382, h⟩ := chk_some h
            refine ld_l_1 c382 (by decide) (by decide) dL_law_973 (?_ : Ex _ _ 974 _ _ _ _ _)
            refine x_iload dL_law_974 rfl (?_ : Ex _ _ 976 _ _ _ _ _)
            refine x_i2l dL_law_976 (?_ : Ex _ _ 977 _ _ _ _ _)
            refine x_lcmp dL_law_977 (?_ : Ex _ _ 978 _ _ _ _ _)
            rcases ite_some h with ⟨b383, h⟩ | ⟨b383, h⟩
            · refine x_if_eq (tgt := 983) dL_law_978 rfl b383 (?_ : Ex _ _ 983 _ _ _ _ _)
              refine x_goto (tgt := 2241) dL_law_983 rfl (?_ : Ex _ _ 2241 _ _ _ _ _)
              obtain ⟨c384, h⟩ := chk_some h
              refine x_iinc (ls2 := [(7, 0), (21, l1), (22, l2), (300001, l3), (0, (l4 + 5)), (0, v365), (0, v373)]) dL_law_2241 rfl c384 rfl (?_ : Ex _ _ 2244 _ _ _ _ _)
              refine x_goto (tgt := 23) dL_law_2244 rfl (?_ : Ex _ _ 23 _ _ _ _ _)
              refine Ex.wk (ls2 := [(7, 0), (21, l1), (22, l2), (300001, l3), (0, (l4 + 5)), (3, 0), (3, 0)]) ⟨Or.inr rfl, Or.inr rfl, Or.inr rfl, Or.inr rfl, Or.inr rfl, Or.inl rfl, Or.inl rfl, trivial⟩ ?_
              exact ih h
            · refine x_if_eqN dL_law_978 (by decide) b383 (?_ : Ex _ _ 981 _ _ _ _ _)
              refine x_iconst dL_law_981 rfl (by decide) (?_ : Ex _ _ 982 _ _ _ _ _)
              cases h
              exact x_ret dL_law_982 (by decide : (0 : Int) ≠ 3)
          · refine x_if_ne (tgt := 983) dL_law_968 rfl b380 (?_ : Ex _ _ 983 _ _ _ _ _)
            refine x_goto (tgt := 2241) dL_law_983 rfl (?_ : Ex _ _ 2241 _ _ _ _ _)
            obtain ⟨c381, h⟩ := chk_some h
            refine x_iinc (ls2 := [(7, 0), (21, l1), (22, l2), (300001, l3), (0, (l4 + 5)), (0, v365), (0, v373)]) dL_law_2241 rfl c381 rfl (?_ : Ex _ _ 2244 _ _ _ _ _)
            refine x_goto (tgt := 23) dL_law_2244 rfl (?_ : Ex _ _ 23 _ _ _ _ _)
            refine Ex.wk (ls2 := [(7, 0), (21, l1), (22, l2), (300001, l3), (0, (l4 + 5)), (3, 0), (3, 0)]) ⟨Or.inr rfl, Or.inr rfl, Or.inr rfl, Or.inr rfl, Or.inr rfl, Or.inl rfl, Or.inl rfl, trivial⟩ ?_
            exact ih h
        · refine x_icmp_eqN dL_law_961 (by decide) b379 (?_ : Ex _ _ 964 _ _ _ _ _)
          refine x_iconst dL_law_964 rfl (by decide) (?_ : Ex _ _ 965 _ _ _ _ _)
          cases h
          exact x_ret dL_law_965 (by decide : (0 : Int) ≠ 3)
      rcases ite_some h with ⟨b385, h⟩ | ⟨b385, h⟩
      · refine y_tableAt (j := 12) (off := 947) (tgt := 986) b385 dL_law_39 (by decide) (by decide) rfl rfl (?_ : Ex _ _ 986 _ _ _ _ _)
        refine x_aload_n dL_law_986 rfl rfl (Or.inr (by decide)) (?_ : Ex _ _ 987 _ _ _ _ _)
        refine x_aload_n dL_law_987 rfl rfl (Or.inl rfl) (?_ : Ex _ _ 988 _ _ _ _ _)
        refine x_iload dL_law_988 rfl (?_ : Ex _ _ 990 _ _ _ _ _)
        refine x_iconst dL_law_990 rfl (by decide) (?_ : Ex _ _ 991 _ _ _ _ _)
        obtain ⟨c386, h⟩ := chk_some h
        refine x_iadd dL_law_991 c386 (?_ : Ex _ _ 992 _ _ _ _ _)
        obtain ⟨⟨c387, c388, c389⟩, h⟩ := chk_some h
        refine x_sld c387 c388 c389 dL_law_992 (?_ : Ex _ _ 993 _ _ _ _ _)
        refine x_aload_n dL_law_993 rfl rfl (Or.inl rfl) (?_ : Ex _ _ 994 _ _ _ _ _)
        refine x_iload dL_law_994 rfl (?_ : Ex _ _ 996 _ _ _ _ _)
        refine x_iconst dL_law_996 rfl (by decide) (?_ : Ex _ _ 997 _ _ _ _ _)
        obtain ⟨c390, h⟩ := chk_some h
        refine x_iadd dL_law_997 c390 (?_ : Ex _ _ 998 _ _ _ _ _)
        obtain ⟨⟨c391, c392, c393⟩, h⟩ := chk_some h
        refine x_sld c391 c392 c393 dL_law_998 (?_ : Ex _ _ 999 _ _ _ _ _)
        refine x_aload_n dL_law_999 rfl rfl (Or.inr (by decide)) (?_ : Ex _ _ 1000 _ _ _ _ _)
        obtain ⟨v394, m395, g396, h⟩ := cal_some h
        refine cW4 (e_L_end (d + 43) g396) (by decide) (?_ : Ex _ _ 1003 _ _ _ _ _) og_L_end (List.cons_ne_nil _ _) ml_RL_164 sm_L_end (Nat.le_of_ble_eq_true rfl) dL_law_1000
        refine x_istore (ls2 := [(7, 0), (21, l1), (22, l2), (300001, l3), (0, l4), (0, v394), (3, 0)]) dL_law_1003 (Nat.le_of_ble_eq_true rfl) rfl (?_ : Ex _ _ 1005 _ _ _ _ _)
        refine x_aload_n dL_law_1005 rfl rfl (Or.inr (by decide)) (?_ : Ex _ _ 1006 _ _ _ _ _)
        refine x_aload_n dL_law_1006 rfl rfl (Or.inl rfl) (?_ : Ex _ _ 1007 _ _ _ _ _)
        refine x_iload dL_law_1007 rfl (?_ : Ex _ _ 1009 _ _ _ _ _)
        refine x_iconst dL_law_1009 rfl (by decide) (?_ : Ex _ _ 1010 _ _ _ _ _)
        obtain ⟨c397, h⟩ := chk_some h
        refine x_iadd dL_law_1010 c397 (?_ : Ex _ _ 1011 _ _ _ _ _)
        obtain ⟨⟨c398, c399, c400⟩, h⟩ := chk_some h
        refine x_sld c398 c399 c400 dL_law_1011 (?_ : Ex _ _ 1012 _ _ _ _ _)
        refine x_aload_n dL_law_1012 rfl rfl (Or.inl rfl) (?_ : Ex _ _ 1013 _ _ _ _ _)
        refine x_iload dL_law_1013 rfl (?_ : Ex _ _ 1015 _ _ _ _ _)
        refine x_iconst dL_law_1015 rfl (by decide) (?_ : Ex _ _ 1016 _ _ _ _ _)
        obtain ⟨c401, h⟩ := chk_some h
        refine x_iadd dL_law_1016 c401 (?_ : Ex _ _ 1017 _ _ _ _ _)
        obtain ⟨⟨c402, c403, c404⟩, h⟩ := chk_some h
        refine x_sld c402 c403 c404 dL_law_1017 (?_ : Ex _ _ 1018 _ _ _ _ _)
        obtain ⟨c405, h⟩ := chk_some h
        obtain ⟨v406, m407, g408, h⟩ := cal_some h
        refine cV2 (e_X12_end (d + 43) g408) (contN (by decide) (?_ : Ex _ _ 1021 _ _ _ _ _)) og_X12_end rfl ml_RL_166 12 rfl rfl c405 im_X12_end se_X12_end (Nat.le_of_ble_eq_true rfl) dL_law_1018
        refine x_istore (ls2 := [(7, 0), (21, l1), (22, l2), (300001, l3), (0, l4), (0, v394), (0, v406)]) dL_law_1021 (Nat.le_of_ble_eq_true rfl) rfl (?_ : Ex _ _ 1023 _ _ _ _ _)
        refine x_aload_n dL_law_1023 rfl rfl (Or.inr (by decide)) (?_ : Ex _ _ 1024 _ _ _ _ _)
        obtain ⟨v409, m410, g411, h⟩ := cal_some h
        refine cV0 (e_X12_thrown (d + 46) g411) (contN (by decide) (?_ : Ex _ _ 1027 _ _ _ _ _)) og_X12_thrown rfl ml_RL_124 12 rfl rfl c405 im_X12_thrown se_X12_thrown (Nat.le_of_ble_eq_true rfl) dL_law_1024
        refine x_iload dL_law_1027 rfl (?_ : Ex _ _ 1029 _ _ _ _ _)
        rcases ite_some h with ⟨b412, h⟩ | ⟨b412, h⟩
        · refine x_icmp_eq (tgt := 1034) dL_law_1029 rfl b412 (?_ : Ex _ _ 1034 _ _ _ _ _)
          refine x_iload dL_law_1034 rfl (?_ : Ex _ _ 1036 _ _ _ _ _)
          rcases ite_some h with ⟨b413, h⟩ | ⟨b413, h⟩
          · refine x_if_neN dL_law_1036 (by decide) (fun hh => hh b413) (?_ : Ex _ _ 1039 _ _ _ _ _)
            refine x_aload_n dL_law_1039 rfl rfl (Or.inr (by decide)) (?_ : Ex _ _ 1040 _ _ _ _ _)
            refine x_iconst dL_law_1040 rfl (by decide) (?_ : Ex _ _ 1041 _ _ _ _ _)
            obtain ⟨c415, h⟩ := chk_some h
            refine ld_l_1 c415 (by decide) (by decide) dL_law_1041 (?_ : Ex _ _ 1042 _ _ _ _ _)
            refine x_iload dL_law_1042 rfl (?_ : Ex _ _ 1044 _ _ _ _ _)
            rcases ite_some h with ⟨b416, h⟩ | ⟨b416, h⟩
            · refine x_if_eq (tgt := 1051) dL_law_1044 rfl b416 (?_ : Ex _ _ 1051 _ _ _ _ _)
              refine x_lconst dL_law_1051 kl_0 (by decide) (?_ : Ex _ _ 1052 _ _ _ _ _)
              refine Ex.wk (ls2 := [(7, 0), (21, l1), (22, l2), (300001, l3), (0, l4), (3, 0), (3, 0)]) ⟨Or.inr rfl, Or.inr rfl, Or.inr rfl, Or.inr rfl, Or.inr rfl, Or.inl rfl, Or.inl rfl, trivial⟩ ?_
              exact e_L_law_1052 d ih h
            · refine x_if_eqN dL_law_1044 (by decide) b416 (?_ : Ex _ _ 1047 _ _ _ _ _)
              refine x_lconst dL_law_1047 kl_1 (by decide) (?_ : Ex _ _ 1048 _ _ _ _ _)
              refine x_goto (tgt := 1052) dL_law_1048 rfl (?_ : Ex _ _ 1052 _ _ _ _ _)
              refine Ex.wk (ls2 := [(7, 0), (21, l1), (22, l2), (300001, l3), (0, l4), (3, 0), (3, 0)]) ⟨Or.inr rfl, Or.inr rfl, Or.inr rfl, Or.inr rfl, Or.inr rfl, Or.inl rfl, Or.inl rfl, trivial⟩ ?_
              exact e_L_law_1052 d ih h
          · refine x_if_ne (tgt := 1058) dL_law_1036 rfl b413 (?_ : Ex _ _ 1058 _ _ _ _ _)
            refine x_goto (tgt := 2241) dL_law_1058 rfl (?_ : Ex _ _ 2241 _ _ _ _ _)
            obtain ⟨c414, h⟩ := chk_some h
            refine x_iinc (ls2 := [(7, 0), (21, l1), (22, l2), (300001, l3), (0, (l4 + 5)), (0, v394), (0, v406)]) dL_law_2241 rfl c414 rfl (?_ : Ex _ _ 2244 _ _ _ _ _)
            refine x_goto (tgt := 23) dL_law_2244 rfl (?_ : Ex _ _ 23 _ _ _ _ _)
            refine Ex.wk (ls2 := [(7, 0), (21, l1), (22, l2), (300001, l3), (0, (l4 + 5)), (3, 0), (3, 0)]) ⟨Or.inr rfl, Or.inr rfl, Or.inr rfl, Or.inr rfl, Or.inr rfl, Or.inl rfl, Or.inl rfl, trivial⟩ ?_
            exact ih h
        · refine x_icmp_eqN dL_law_1029 (by decide) b412 (?_ : Ex _ _ 1032 _ _ _ _ _)
          refine x_iconst dL_law_1032 rfl (by decide) (?_ : Ex _ _ 1033 _ _ _ _ _)
          cases h
          exact x_ret dL_law_1033 (by decide : (0 : Int) ≠ 3)
      rcases ite_some h with ⟨b417, h⟩ | ⟨b417, h⟩
      · refine y_tableAt (j := 13) (off := 1022) (tgt := 1061) b417 dL_law_39 (by decide) (by decide) rfl rfl (?_ : Ex _ _ 1061 _ _ _ _ _)
        refine x_aload_n dL_law_1061 rfl rfl (Or.inr (by decide)) (?_ : Ex _ _ 1062 _ _ _ _ _)
        refine x_aload_n dL_law_1062 rfl rfl (Or.inl rfl) (?_ : Ex _ _ 1063 _ _ _ _ _)
        refine x_iload dL_law_1063 rfl (?_ : Ex _ _ 1065 _ _ _ _ _)
        refine x_iconst dL_law_1065 rfl (by decide) (?_ : Ex _ _ 1066 _ _ _ _ _)
        obtain ⟨c418, h⟩ := chk_some h
        refine x_iadd dL_law_1066 c418 (?_ : Ex _ _ 1067 _ _ _ _ _)
        obtain ⟨⟨c419, c420, c421⟩, h⟩ := chk_some h
        refine x_sld c419 c420 c421 dL_law_1067 (?_ : Ex _ _ 1068 _ _ _ _ _)
        refine x_aload_n dL_law_1068 rfl rfl (Or.inr (by decide)) (?_ : Ex _ _ 1069 _ _ _ _ _)
        obtain ⟨v422, m423, g424, h⟩ := cal_some h
        refine cW3 (e_L_fail (d + 42) g424) (by decide) (?_ : Ex _ _ 1072 _ _ _ _ _) og_L_fail (List.cons_ne_nil _ _) ml_RL_167 sm_L_fail (Nat.le_of_ble_eq_true rfl) dL_law_1069
        refine x_istore (ls2 := [(7, 0), (21, l1), (22, l2), (300001, l3), (0, l4), (0, v422), (3, 0)]) dL_law_1072 (Nat.le_of_ble_eq_true rfl) rfl (?_ : Ex _ _ 1074 _ _ _ _ _)
        refine x_aload_n dL_law_1074 rfl rfl (Or.inr (by decide)) (?_ : Ex _ _ 1075 _ _ _ _ _)
        refine x_aload_n dL_law_1075 rfl rfl (Or.inl rfl) (?_ : Ex _ _ 1076 _ _ _ _ _)
        refine x_iload dL_law_1076 rfl (?_ : Ex _ _ 1078 _ _ _ _ _)
        refine x_iconst dL_law_1078 rfl (by decide) (?_ : Ex _ _ 1079 _ _ _ _ _)
        obtain ⟨c425, h⟩ := chk_some h
        refine x_iadd dL_law_1079 c425 (?_ : Ex _ _ 1080 _ _ _ _ _)
        obtain ⟨⟨c426, c427, c428⟩, h⟩ := chk_some h
        refine x_sld c426 c427 c428 dL_law_1080 (?_ : Ex _ _ 1081 _ _ _ _ _)
        obtain ⟨c429, h⟩ := chk_some h
        obtain ⟨v430, m431, g432, h⟩ := cal_some h
        refine cV1 (e_X12_fail (d + 42) g432) (contN (by decide) (?_ : Ex _ _ 1084 _ _ _ _ _)) og_X12_fail rfl ml_RL_169 12 rfl rfl c429 im_X12_fail se_X12_fail (Nat.le_of_ble_eq_true rfl) dL_law_1081
        refine x_istore (ls2 := [(7, 0), (21, l1), (22, l2), (300001, l3), (0, l4), (0, v422), (0, v430)]) dL_law_1084 (Nat.le_of_ble_eq_true rfl) rfl (?_ : Ex _ _ 1086 _ _ _ _ _)
        refine x_aload_n dL_law_1086 rfl rfl (Or.inr (by decide)) (?_ : Ex _ _ 1087 _ _ _ _ _)
        obtain ⟨v433, m434, g435, h⟩ := cal_some h
        refine cV0 (e_X12_thrown (d + 46) g435) (contN (by decide) (?_ : Ex _ _ 1090 _ _ _ _ _)) og_X12_thrown rfl ml_RL_124 12 rfl rfl c429 im_X12_thrown se_X12_thrown (Nat.le_of_ble_eq_true rfl) dL_law_1087
        refine x_iload dL_law_1090 rfl (?_ : Ex _ _ 1092 _ _ _ _ _)
        rcases ite_some h with ⟨b436, h⟩ | ⟨b436, h⟩
        · refine x_icmp_eq (tgt := 1097) dL_law_1092 rfl b436 (?_ : Ex _ _ 1097 _ _ _ _ _)
          refine x_iload dL_law_1097 rfl (?_ : Ex _ _ 1099 _ _ _ _ _)
          rcases ite_some h with ⟨b437, h⟩ | ⟨b437, h⟩
          · refine x_if_neN dL_law_1099 (by decide) (fun hh => hh b437) (?_ : Ex _ _ 1102 _ _ _ _ _)
            refine x_aload_n dL_law_1102 rfl rfl (Or.inr (by decide)) (?_ : Ex _ _ 1103 _ _ _ _ _)
            refine x_iconst dL_law_1103 rfl (by decide) (?_ : Ex _ _ 1104 _ _ _ _ _)
            obtain ⟨c439, h⟩ := chk_some h
            refine ld_l_1 c439 (by decide) (by decide) dL_law_1104 (?_ : Ex _ _ 1105 _ _ _ _ _)
            refine x_iload dL_law_1105 rfl (?_ : Ex _ _ 1107 _ _ _ _ _)
            refine x_i2l dL_law_1107 (?_ : Ex _ _ 1108 _ _ _ _ _)
            refine x_lcmp dL_law_1108 (?_ : Ex _ _ 1109 _ _ _ _ _)
            rcases ite_some h with ⟨b440, h⟩ | ⟨b440, h⟩
            · refine x_if_eq (tgt := 1114) dL_law_1109 rfl b440 (?_ : Ex _ _ 1114 _ _ _ _ _)
              refine x_goto (tgt := 2241) dL_law_1114 rfl (?_ : Ex _ _ 2241 _ _ _ _ _)
              obtain ⟨c441, h⟩ := chk_some h
              refine x_iinc (ls2 := [(7, 0), (21, l1), (22, l2), (300001, l3), (0, (l4 + 5)), (0, v422), (0, v430)]) dL_law_2241 rfl c441 rfl (?_ : Ex _ _ 2244 _ _ _ _ _)
              refine x_goto (tgt := 23) dL_law_2244 rfl (?_ : Ex _ _ 23 _ _ _ _ _)
              refine Ex.wk (ls2 := [(7, 0), (21, l1), (22, l2), (300001, l3), (0, (l4 + 5)), (3, 0), (3, 0)]) ⟨Or.inr rfl, Or.inr rfl, Or.inr rfl, Or.inr rfl, Or.inr rfl, Or.inl rfl, Or.inl rfl, trivial⟩ ?_
              exact ih h
            · refine x_if_eqN dL_law_1109 (by decide) b440 (?_ : Ex _ _ 1112 _ _ _ _ _)
              refine x_iconst dL_law_1112 rfl (by decide) (?_ : Ex _ _ 1113 _ _ _ _ _)
              cases h
              exact x_ret dL_law_1113 (by decide : (0 : Int) ≠ 3)
          · refine x_if_ne (tgt := 1114) dL_law_1099 rfl b437 (?_ : Ex _ _ 1114 _ _ _ _ _)
            refine x_goto (tgt := 2241) dL_law_1114 rfl (?_ : Ex _ _ 2241 _ _ _ _ _)
            obtain ⟨c438, h⟩ := chk_some h
            refine x_iinc (ls2 := [(7, 0), (21, l1), (22, l2), (300001, l3), (0, (l4 + 5)), (0, v422), (0, v430)]) dL_law_2241 rfl c438 rfl (?_ : Ex _ _ 2244 _ _ _ _ _)
            refine x_goto (tgt := 23) dL_law_2244 rfl (?_ : Ex _ _ 23 _ _ _ _ _)
            refine Ex.wk (ls2 := [(7, 0), (21, l1), (22, l2), (300001, l3), (0, (l4 + 5)), (3, 0), (3, 0)]) ⟨Or.inr rfl, Or.inr rfl, Or.inr rfl, Or.inr rfl, Or.inr rfl, Or.inl rfl, Or.inl rfl, trivial⟩ ?_
            exact ih h
        · refine x_icmp_eqN dL_law_1092 (by decide) b436 (?_ : Ex _ _ 1095 _ _ _ _ _)
          refine x_iconst dL_law_1095 rfl (by decide) (?_ : Ex _ _ 1096 _ _ _ _ _)
          cases h
          exact x_ret dL_law_1096 (by decide : (0 : Int) ≠ 3)
      rcases ite_some h with ⟨b442, h⟩ | ⟨b442, h⟩
      · refine y_tableAt (j := 14) (off := 1078) (tgt := 1117) b442 dL_law_39 (by decide) (by decide) rfl rfl (?_ : Ex _ _ 1117 _ _ _ _ _)
        refine x_aload_n dL_law_1117 rfl rfl (Or.inr (by decide)) (?_ : Ex _ _ 1118 _ _ _ _ _)
        refine x_aload_n dL_law_1118 rfl rfl (Or.inl rfl) (?_ : Ex _ _ 1119 _ _ _ _ _)
        refine x_iload dL_law_1119 rfl (?_ : Ex _ _ 1121 _ _ _ _ _)
        refine x_iconst dL_law_1121 rfl (by decide) (?_ : Ex _ _ 1122 _ _ _ _ _)
        obtain ⟨c443, h⟩ := chk_some h
        refine x_iadd dL_law_1122 c443 (?_ : Ex _ _ 1123 _ _ _ _ _)
        obtain ⟨⟨c444, c445, c446⟩, h⟩ := chk_some h
        refine x_sld c444 c445 c446 dL_law_1123 (?_ : Ex _ _ 1124 _ _ _ _ _)
        refine x_aload_n dL_law_1124 rfl rfl (Or.inl rfl) (?_ : Ex _ _ 1125 _ _ _ _ _)
        refine x_iload dL_law_1125 rfl (?_ : Ex _ _ 1127 _ _ _ _ _)
        refine x_iconst dL_law_1127 rfl (by decide) (?_ : Ex _ _ 1128 _ _ _ _ _)
        obtain ⟨c447, h⟩ := chk_some h
        refine x_iadd dL_law_1128 c447 (?_ : Ex _ _ 1129 _ _ _ _ _)
        obtain ⟨⟨c448, c449, c450⟩, h⟩ := chk_some h
        refine x_sld c448 c449 c450 dL_law_1129 (?_ : Ex _ _ 1130 _ _ _ _ _)
        rcases ite_some h with ⟨b451, h⟩ | ⟨b451, h⟩
        · refine x_if_eq (tgt := 1137) dL_law_1130 rfl b451 (?_ : Ex _ _ 1137 _ _ _ _ _)
          refine x_iconst dL_law_1137 rfl (by decide) (?_ : Ex _ _ 1138 _ _ _ _ _)
          exact e_L_law_1138 d ih h
        · refine x_if_eqN dL_law_1130 (by decide) b451 (?_ : Ex _ _ 1133 _ _ _ _ _)
          refine x_iconst dL_law_1133 rfl (by decide) (?_ : Ex _ _ 1134 _ _ _ _ _)
          refine x_goto (tgt := 1138) dL_law_1134 rfl (?_ : Ex _ _ 1138 _ _ _ _ _)
          exact e_L_law_1138 d ih h
      rcases ite_some h with ⟨b452, h⟩ | ⟨b452, h⟩
      · refine y_tableAt (j := 15) (off := 1169) (tgt := 1208) b452 dL_law_39 (by decide) (by decide) rfl rfl (?_ : Ex _ _ 1208 _ _ _ _ _)
        refine x_aload_n dL_law_1208 rfl rfl (Or.inr (by decide)) (?_ : Ex _ _ 1209 _ _ _ _ _)
        refine x_aload_n dL_law_1209 rfl rfl (Or.inl rfl) (?_ : Ex _ _ 1210 _ _ _ _ _)
        refine x_iload dL_law_1210 rfl (?_ : Ex _ _ 1212 _ _ _ _ _)
        refine x_iconst dL_law_1212 rfl (by decide) (?_ : Ex _ _ 1213 _ _ _ _ _)
        obtain ⟨c453, h⟩ := chk_some h
        refine x_iadd dL_law_1213 c453 (?_ : Ex _ _ 1214 _ _ _ _ _)
        obtain ⟨⟨c454, c455, c456⟩, h⟩ := chk_some h
        refine x_sld c454 c455 c456 dL_law_1214 (?_ : Ex _ _ 1215 _ _ _ _ _)
        refine x_aload_n dL_law_1215 rfl rfl (Or.inr (by decide)) (?_ : Ex _ _ 1216 _ _ _ _ _)
        obtain ⟨v457, m458, g459, h⟩ := cal_some h
        refine cW3 (e_L_ready (d + 43) g459) (by decide) (?_ : Ex _ _ 1219 _ _ _ _ _) og_L_ready (List.cons_ne_nil _ _) ml_RL_174 sm_L_ready (Nat.le_of_ble_eq_true rfl) dL_law_1216
        refine x_istore (ls2 := [(7, 0), (21, l1), (22, l2), (300001, l3), (0, l4), (0, v457), (3, 0)]) dL_law_1219 (Nat.le_of_ble_eq_true rfl) rfl (?_ : Ex _ _ 1221 _ _ _ _ _)
        refine x_aload_n dL_law_1221 rfl rfl (Or.inr (by decide)) (?_ : Ex _ _ 1222 _ _ _ _ _)
        refine x_aload_n dL_law_1222 rfl rfl (Or.inl rfl) (?_ : Ex _ _ 1223 _ _ _ _ _)
        refine x_iload dL_law_1223 rfl (?_ : Ex _ _ 1225 _ _ _ _ _)
        refine x_iconst dL_law_1225 rfl (by decide) (?_ : Ex _ _ 1226 _ _ _ _ _)
        obtain ⟨c460, h⟩ := chk_some h
        refine x_iadd dL_law_1226 c460 (?_ : Ex _ _ 1227 _ _ _ _ _)
        obtain ⟨⟨c461, c462, c463⟩, h⟩ := chk_some h
        refine x_sld c461 c462 c463 dL_law_1227 (?_ : Ex _ _ 1228 _ _ _ _ _)
        obtain ⟨c464, h⟩ := chk_some h
        obtain ⟨v465, m466, g467, h⟩ := cal_some h
        refine cV1 (e_X12_ready (d + 44) g467) (contN (by decide) (?_ : Ex _ _ 1231 _ _ _ _ _)) og_X12_ready rfl ml_RL_176 12 rfl rfl c464 im_X12_ready se_X12_ready (Nat.le_of_ble_eq_true rfl) dL_law_1228
        refine x_istore (ls2 := [(7, 0), (21, l1), (22, l2), (300001, l3), (0, l4), (0, v457), (0, v465)]) dL_law_1231 (Nat.le_of_ble_eq_true rfl) rfl (?_ : Ex _ _ 1233 _ _ _ _ _)
        refine x_aload_n dL_law_1233 rfl rfl (Or.inr (by decide)) (?_ : Ex _ _ 1234 _ _ _ _ _)
        obtain ⟨v468, m469, g470, h⟩ := cal_some h
        refine cV0 (e_X12_thrown (d + 46) g470) (contN (by decide) (?_ : Ex _ _ 1237 _ _ _ _ _)) og_X12_thrown rfl ml_RL_124 12 rfl rfl c464 im_X12_thrown se_X12_thrown (Nat.le_of_ble_eq_true rfl) dL_law_1234
        refine x_iload dL_law_1237 rfl (?_ : Ex _ _ 1239 _ _ _ _ _)
        rcases ite_some h with ⟨b471, h⟩ | ⟨b471, h⟩
        · refine x_icmp_eq (tgt := 1244) dL_law_1239 rfl b471 (?_ : Ex _ _ 1244 _ _ _ _ _)
          refine x_iload dL_law_1244 rfl (?_ : Ex _ _ 1246 _ _ _ _ _)
          rcases ite_some h with ⟨b472, h⟩ | ⟨b472, h⟩
          · refine x_if_neN dL_law_1246 (by decide) (fun hh => hh b472) (?_ : Ex _ _ 1249 _ _ _ _ _)
            refine x_aload_n dL_law_1249 rfl rfl (Or.inr (by decide)) (?_ : Ex _ _ 1250 _ _ _ _ _)
            refine x_iconst dL_law_1250 rfl (by decide) (?_ : Ex _ _ 1251 _ _ _ _ _)
            obtain ⟨c474, h⟩ := chk_some h
            refine ld_l_1 c474 (by decide) (by decide) dL_law_1251 (?_ : Ex _ _ 1252 _ _ _ _ _)
            refine x_iload dL_law_1252 rfl (?_ : Ex _ _ 1254 _ _ _ _ _)
            refine x_i2l dL_law_1254 (?_ : Ex _ _ 1255 _ _ _ _ _)
            refine x_lcmp dL_law_1255 (?_ : Ex _ _ 1256 _ _ _ _ _)
            rcases ite_some h with ⟨b475, h⟩ | ⟨b475, h⟩
            · refine x_if_eq (tgt := 1261) dL_law_1256 rfl b475 (?_ : Ex _ _ 1261 _ _ _ _ _)
              refine x_goto (tgt := 2241) dL_law_1261 rfl (?_ : Ex _ _ 2241 _ _ _ _ _)
              obtain ⟨c476, h⟩ := chk_some h
              refine x_iinc (ls2 := [(7, 0), (21, l1), (22, l2), (300001, l3), (0, (l4 + 5)), (0, v457), (0, v465)]) dL_law_2241 rfl c476 rfl (?_ : Ex _ _ 2244 _ _ _ _ _)
              refine x_goto (tgt := 23) dL_law_2244 rfl (?_ : Ex _ _ 23 _ _ _ _ _)
              refine Ex.wk (ls2 := [(7, 0), (21, l1), (22, l2), (300001, l3), (0, (l4 + 5)), (3, 0), (3, 0)]) ⟨Or.inr rfl, Or.inr rfl, Or.inr rfl, Or.inr rfl, Or.inr rfl, Or.inl rfl, Or.inl rfl, trivial⟩ ?_
              exact ih h
            · refine x_if_eqN dL_law_1256 (by decide) b475 (?_ : Ex _ _ 1259 _ _ _ _ _)
              refine x_iconst dL_law_1259 rfl (by decide) (?_ : Ex _ _ 1260 _ _ _ _ _)
              cases h
              exact x_ret dL_law_1260 (by decide : (0 : Int) ≠ 3)
          · refine x_if_ne (tgt := 1261) dL_law_1246 rfl b472 (?_ : Ex _ _ 1261 _ _ _ _ _)
            refine x_goto (tgt := 2241) dL_law_1261 rfl (?_ : Ex _ _ 2241 _ _ _ _ _)
            obtain ⟨c473, h⟩ := chk_some h
            refine x_iinc (ls2 := [(7, 0), (21, l1), (22, l2), (300001, l3), (0, (l4 + 5)), (0, v457), (0, v465)]) dL_law_2241 rfl c473 rfl (?_ : Ex _ _ 2244 _ _ _ _ _)
            refine x_goto (tgt := 23) dL_law_2244 rfl (?_ : Ex _ _ 23 _ _ _ _ _)
            refine Ex.wk (ls2 := [(7, 0), (21, l1), (22, l2), (300001, l3), (0, (l4 + 5)), (3, 0), (3, 0)]) ⟨Or.inr rfl, Or.inr rfl, Or.inr rfl, Or.inr rfl, Or.inr rfl, Or.inl rfl, Or.inl rfl, trivial⟩ ?_
            exact ih h
        · refine x_icmp_eqN dL_law_1239 (by decide) b471 (?_ : Ex _ _ 1242 _ _ _ _ _)
          refine x_iconst dL_law_1242 rfl (by decide) (?_ : Ex _ _ 1243 _ _ _ _ _)
          cases h
          exact x_ret dL_law_1243 (by decide : (0 : Int) ≠ 3)
      rcases ite_some h with ⟨b477, h⟩ | ⟨b477, h⟩
      · refine y_tableAt (j := 16) (off := 1225) (tgt := 1264) b477 dL_law_39 (by decide) (by decide) rfl rfl (?_ : Ex _ _ 1264 _ _ _ _ _)
        refine x_aload_n dL_law_1264 rfl rfl (Or.inr (by decide)) (?_ : Ex _ _ 1265 _ _ _ _ _)
        refine x_aload_n dL_law_1265 rfl rfl (Or.inl rfl) (?_ : Ex _ _ 1266 _ _ _ _ _)
        refine x_iload dL_law_1266 rfl (?_ : Ex _ _ 1268 _ _ _ _ _)
        refine x_iconst dL_law_1268 rfl (by decide) (?_ : Ex _ _ 1269 _ _ _ _ _)
        obtain ⟨c478, h⟩ := chk_some h
        refine x_iadd dL_law_1269 c478 (?_ : Ex _ _ 1270 _ _ _ _ _)
        obtain ⟨⟨c479, c480, c481⟩, h⟩ := chk_some h
        refine x_sld c479 c480 c481 dL_law_1270 (?_ : Ex _ _ 1271 _ _ _ _ _)
        refine x_aload_n dL_law_1271 rfl rfl (Or.inl rfl) (?_ : Ex _ _ 1272 _ _ _ _ _)
        refine x_iload dL_law_1272 rfl (?_ : Ex _ _ 1274 _ _ _ _ _)
        refine x_iconst dL_law_1274 rfl (by decide) (?_ : Ex _ _ 1275 _ _ _ _ _)
        obtain ⟨c482, h⟩ := chk_some h
        refine x_iadd dL_law_1275 c482 (?_ : Ex _ _ 1276 _ _ _ _ _)
        obtain ⟨⟨c483, c484, c485⟩, h⟩ := chk_some h
        refine x_sld c483 c484 c485 dL_law_1276 (?_ : Ex _ _ 1277 _ _ _ _ _)
        refine x_aload_n dL_law_1277 rfl rfl (Or.inr (by decide)) (?_ : Ex _ _ 1278 _ _ _ _ _)
        obtain ⟨v486, m487, g488, h⟩ := cal_some h
        refine cW4 (e_L_taken (d + 42) g488) (by decide) (?_ : Ex _ _ 1281 _ _ _ _ _) og_L_taken (List.cons_ne_nil _ _) ml_RL_177 sm_L_taken (Nat.le_of_ble_eq_true rfl) dL_law_1278
        refine x_istore (ls2 := [(7, 0), (21, l1), (22, l2), (300001, l3), (0, l4), (0, v486), (3, 0)]) dL_law_1281 (Nat.le_of_ble_eq_true rfl) rfl (?_ : Ex _ _ 1283 _ _ _ _ _)
        refine x_aload_n dL_law_1283 rfl rfl (Or.inr (by decide)) (?_ : Ex _ _ 1284 _ _ _ _ _)
        refine x_aload_n dL_law_1284 rfl rfl (Or.inl rfl) (?_ : Ex _ _ 1285 _ _ _ _ _)
        refine x_iload dL_law_1285 rfl (?_ : Ex _ _ 1287 _ _ _ _ _)
        refine x_iconst dL_law_1287 rfl (by decide) (?_ : Ex _ _ 1288 _ _ _ _ _)
        obtain ⟨c489, h⟩ := chk_some h
        refine x_iadd dL_law_1288 c489 (?_ : Ex _ _ 1289 _ _ _ _ _)
        obtain ⟨⟨c490, c491, c492⟩, h⟩ := chk_some h
        refine x_sld c490 c491 c492 dL_law_1289 (?_ : Ex _ _ 1290 _ _ _ _ _)
        refine x_aload_n dL_law_1290 rfl rfl (Or.inl rfl) (?_ : Ex _ _ 1291 _ _ _ _ _)
        refine x_iload dL_law_1291 rfl (?_ : Ex _ _ 1293 _ _ _ _ _)
        refine x_iconst dL_law_1293 rfl (by decide) (?_ : Ex _ _ 1294 _ _ _ _ _)
        obtain ⟨c493, h⟩ := chk_some h
        refine x_iadd dL_law_1294 c493 (?_ : Ex _ _ 1295 _ _ _ _ _)
        obtain ⟨⟨c494, c495, c496⟩, h⟩ := chk_some h
        refine x_sld c494 c495 c496 dL_law_1295 (?_ : Ex _ _ 1296 _ _ _ _ _)
        obtain ⟨c497, h⟩ := chk_some h
        obtain ⟨v498, m499, g500, h⟩ := cal_some h
        refine cV2 (e_X12_taken (d + 44) g500) (contN (by decide) (?_ : Ex _ _ 1299 _ _ _ _ _)) og_X12_taken rfl ml_RL_179 12 rfl rfl c497 im_X12_taken se_X12_taken (Nat.le_of_ble_eq_true rfl) dL_law_1296
        refine x_istore (ls2 := [(7, 0), (21, l1), (22, l2), (300001, l3), (0, l4), (0, v486), (0, v498)]) dL_law_1299 (Nat.le_of_ble_eq_true rfl) rfl (?_ : Ex _ _ 1301 _ _ _ _ _)
        refine x_aload_n dL_law_1301 rfl rfl (Or.inr (by decide)) (?_ : Ex _ _ 1302 _ _ _ _ _)
        obtain ⟨v501, m502, g503, h⟩ := cal_some h
        refine cV0 (e_X12_thrown (d + 46) g503) (contN (by decide) (?_ : Ex _ _ 1305 _ _ _ _ _)) og_X12_thrown rfl ml_RL_124 12 rfl rfl c497 im_X12_thrown se_X12_thrown (Nat.le_of_ble_eq_true rfl) dL_law_1302
        refine x_iload dL_law_1305 rfl (?_ : Ex _ _ 1307 _ _ _ _ _)
        rcases ite_some h with ⟨b504, h⟩ | ⟨b504, h⟩
        · refine x_icmp_eq (tgt := 1312) dL_law_1307 rfl b504 (?_ : Ex _ _ 1312 _ _ _ _ _)
          refine x_iload dL_law_1312 rfl (?_ : Ex _ _ 1314 _ _ _ _ _)
          rcases ite_some h with ⟨b505, h⟩ | ⟨b505, h⟩
          · refine x_if_neN dL_law_1314 (by decide) (fun hh => hh b505) (?_ : Ex _ _ 1317 _ _ _ _ _)
            refine x_aload_n dL_law_1317 rfl rfl (Or.inr (by decide)) (?_ : Ex _ _ 1318 _ _ _ _ _)
            refine x_iconst dL_law_1318 rfl (by decide) (?_ : Ex _ _ 1319 _ _ _ _ _)
            obtain ⟨c507, h⟩ := chk_some h
            refine ld_l_1 c507 (by decide) (by decide) dL_law_1319 (?_ : Ex _ _ 1320 _ _ _ _ _)
            refine x_iload dL_law_1320 rfl (?_ : Ex _ _ 1322 _ _ _ _ _)
            refine x_i2l dL_law_1322 (?_ : Ex _ _ 1323 _ _ _ _ _)
            refine x_lcmp dL_law_1323 (?_ : Ex _ _ 1324 _ _ _ _ _)
            rcases ite_some h with ⟨b508, h⟩ | ⟨b508, h⟩
            · refine x_if_eq (tgt := 1329) dL_law_1324 rfl b508 (?_ : Ex _ _ 1329 _ _ _ _ _)
              refine x_goto (tgt := 2241) dL_law_1329 rfl (?_ : Ex _ _ 2241 _ _ _ _ _)
              obtain ⟨c509, h⟩ := chk_some h
              refine x_iinc (ls2 := [(7, 0), (21, l1), (22, l2), (300001, l3), (0, (l4 + 5)), (0, v486), (0, v498)]) dL_law_2241 rfl c509 rfl (?_ : Ex _ _ 2244 _ _ _ _ _)
              refine x_goto (tgt := 23) dL_law_2244 rfl (?_ : Ex _ _ 23 _ _ _ _ _)
              refine Ex.wk (ls2 := [(7, 0), (21, l1), (22, l2), (300001, l3), (0, (l4 + 5)), (3, 0), (3, 0)]) ⟨Or.inr rfl, Or.inr rfl, Or.inr rfl, Or.inr rfl, Or.inr rfl, Or.inl rfl, Or.inl rfl, trivial⟩ ?_
              exact ih h
            · refine x_if_eqN dL_law_1324 (by decide) b508 (?_ : Ex _ _ 1327 _ _ _ _ _)
              refine x_iconst dL_law_1327 rfl (by decide) (?_ : Ex _ _ 1328 _ _ _ _ _)
              cases h
              exact x_ret dL_law_1328 (by decide : (0 : Int) ≠ 3)
          · refine x_if_ne (tgt := 1329) dL_law_1314 rfl b505 (?_ : Ex _ _ 1329 _ _ _ _ _)
            refine x_goto (tgt := 2241) dL_law_1329 rfl (?_ : Ex _ _ 2241 _ _ _ _ _)
            obtain ⟨c506, h⟩ := chk_some h
            refine x_iinc (ls2 := [(7, 0), (21, l1), (22, l2), (300001, l3), (0, (l4 + 5)), (0, v486), (0, v498)]) dL_law_2241 rfl c506 rfl (?_ : Ex _ _ 2244 _ _ _ _ _)
            refine x_goto (tgt := 23) dL_law_2244 rfl (?_ : Ex _ _ 23 _ _ _ _ _)
            refine Ex.wk (ls2 := [(7, 0), (21, l1), (22, l2), (300001, l3), (0, (l4 + 5)), (3, 0), (3, 0)]) ⟨Or.inr rfl, Or.inr rfl, Or.inr rfl, Or.inr rfl, Or.inr rfl, Or.inl rfl, Or.inl rfl, trivial⟩ ?_
            exact ih h
        · refine x_icmp_eqN dL_law_1307 (by decide) b504 (?_ : Ex _ _ 1310 _ _ _ _ _)
          refine x_iconst dL_law_1310 rfl (by decide) (?_ : Ex _ _ 1311 _ _ _ _ _)
          cases h
          exact x_ret dL_law_1311 (by decide : (0 : Int) ≠ 3)
      rcases ite_some h with ⟨b510, h⟩ | ⟨b510, h⟩
      · refine y_tableAt (j := 17) (off := 1293) (tgt := 1332) b510 dL_law_39 (by decide) (by decide) rfl rfl (?_ : Ex _ _ 1332 _ _ _ _ _)
        refine x_aload_n dL_law_1332 rfl rfl (Or.inr (by decide)) (?_ : Ex _ _ 1333 _ _ _ _ _)
        refine x_aload_n dL_law_1333 rfl rfl (Or.inl rfl) (?_ : Ex _ _ 1334 _ _ _ _ _)
        refine x_iload dL_law_1334 rfl (?_ : Ex _ _ 1336 _ _ _ _ _)
        refine x_iconst dL_law_1336 rfl (by decide) (?_ : Ex _ _ 1337 _ _ _ _ _)
        obtain ⟨c511, h⟩ := chk_some h
        refine x_iadd dL_law_1337 c511 (?_ : Ex _ _ 1338 _ _ _ _ _)
        obtain ⟨⟨c512, c513, c514⟩, h⟩ := chk_some h
        refine x_sld c512 c513 c514 dL_law_1338 (?_ : Ex _ _ 1339 _ _ _ _ _)
        refine x_aload_n dL_law_1339 rfl rfl (Or.inr (by decide)) (?_ : Ex _ _ 1340 _ _ _ _ _)
        obtain ⟨v515, m516, g517, h⟩ := cal_some h
        refine cW3 (e_L_tick (d + 40) g517) (by decide) (?_ : Ex _ _ 1343 _ _ _ _ _) og_L_tick (List.cons_ne_nil _ _) ml_RL_180 sm_L_tick (Nat.le_of_ble_eq_true rfl) dL_law_1340
        refine x_istore (ls2 := [(7, 0), (21, l1), (22, l2), (300001, l3), (0, l4), (0, v515), (3, 0)]) dL_law_1343 (Nat.le_of_ble_eq_true rfl) rfl (?_ : Ex _ _ 1345 _ _ _ _ _)
        refine x_aload_n dL_law_1345 rfl rfl (Or.inr (by decide)) (?_ : Ex _ _ 1346 _ _ _ _ _)
        refine x_aload_n dL_law_1346 rfl rfl (Or.inl rfl) (?_ : Ex _ _ 1347 _ _ _ _ _)
        refine x_iload dL_law_1347 rfl (?_ : Ex _ _ 1349 _ _ _ _ _)
        refine x_iconst dL_law_1349 rfl (by decide) (?_ : Ex _ _ 1350 _ _ _ _ _)
        obtain ⟨c518, h⟩ := chk_some h
        refine x_iadd dL_law_1350 c518 (?_ : Ex _ _ 1351 _ _ _ _ _)
        obtain ⟨⟨c519, c520, c521⟩, h⟩ := chk_some h
        refine x_sld c519 c520 c521 dL_law_1351 (?_ : Ex _ _ 1352 _ _ _ _ _)
        obtain ⟨c522, h⟩ := chk_some h
        obtain ⟨v523, m524, g525, h⟩ := cal_some h
        refine cV1 (e_X12_tick (d + 41) g525) (contN (by decide) (?_ : Ex _ _ 1355 _ _ _ _ _)) og_X12_tick rfl ml_RL_182 12 rfl rfl c522 im_X12_tick se_X12_tick (Nat.le_of_ble_eq_true rfl) dL_law_1352
        refine x_istore (ls2 := [(7, 0), (21, l1), (22, l2), (300001, l3), (0, l4), (0, v515), (0, v523)]) dL_law_1355 (Nat.le_of_ble_eq_true rfl) rfl (?_ : Ex _ _ 1357 _ _ _ _ _)
        refine x_aload_n dL_law_1357 rfl rfl (Or.inr (by decide)) (?_ : Ex _ _ 1358 _ _ _ _ _)
        obtain ⟨v526, m527, g528, h⟩ := cal_some h
        refine cV0 (e_X12_thrown (d + 46) g528) (contN (by decide) (?_ : Ex _ _ 1361 _ _ _ _ _)) og_X12_thrown rfl ml_RL_124 12 rfl rfl c522 im_X12_thrown se_X12_thrown (Nat.le_of_ble_eq_true rfl) dL_law_1358
        refine x_iload dL_law_1361 rfl (?_ : Ex _ _ 1363 _ _ _ _ _)
        rcases ite_some h with ⟨b529, h⟩ | ⟨b529, h⟩
        · refine x_icmp_eq (tgt := 1368) dL_law_1363 rfl b529 (?_ : Ex _ _ 1368 _ _ _ _ _)
          refine x_iload dL_law_1368 rfl (?_ : Ex _ _ 1370 _ _ _ _ _)
          rcases ite_some h with ⟨b530, h⟩ | ⟨b530, h⟩
          · refine x_if_neN dL_law_1370 (by decide) (fun hh => hh b530) (?_ : Ex _ _ 1373 _ _ _ _ _)
            refine x_aload_n dL_law_1373 rfl rfl (Or.inr (by decide)) (?_ : Ex _ _ 1374 _ _ _ _ _)
            refine x_iconst dL_law_1374 rfl (by decide) (?_ : Ex _ _ 1375 _ _ _ _ _)
            obtain ⟨c532, h⟩ := chk_some h
            refine ld_l_1 c532 (by decide) (by decide) dL_law_1375 (?_ : Ex _ _ 1376 _ _ _ _ _)
            refine x_iload dL_law_1376 rfl (?_ : Ex _ _ 1378 _ _ _ _ _)
            refine x_i2l dL_law_1378 (?_ : Ex _ _ 1379 _ _ _ _ _)
            refine x_lcmp dL_law_1379 (?_ : Ex _ _ 1380 _ _ _ _ _)
            rcases ite_some h with ⟨b533, h⟩ | ⟨b533, h⟩
            · refine x_if_eq (tgt := 1385) dL_law_1380 rfl b533 (?_ : Ex _ _ 1385 _ _ _ _ _)
              refine x_goto (tgt := 2241) dL_law_1385 rfl (?_ : Ex _ _ 2241 _ _ _ _ _)
              obtain ⟨c534, h⟩ := chk_some h
              refine x_iinc (ls2 := [(7, 0), (21, l1), (22, l2), (300001, l3), (0, (l4 + 5)), (0, v515), (0, v523)]) dL_law_2241 rfl c534 rfl (?_ : Ex _ _ 2244 _ _ _ _ _)
              refine x_goto (tgt := 23) dL_law_2244 rfl (?_ : Ex _ _ 23 _ _ _ _ _)
              refine Ex.wk (ls2 := [(7, 0), (21, l1), (22, l2), (300001, l3), (0, (l4 + 5)), (3, 0), (3, 0)]) ⟨Or.inr rfl, Or.inr rfl, Or.inr rfl, Or.inr rfl, Or.inr rfl, Or.inl rfl, Or.inl rfl, trivial⟩ ?_
              exact ih h
            · refine x_if_eqN dL_law_1380 (by decide) b533 (?_ : Ex _ _ 1383 _ _ _ _ _)
              refine x_iconst dL_law_1383 rfl (by decide) (?_ : Ex _ _ 1384 _ _ _ _ _)
              cases h
              exact x_ret dL_law_1384 (by decide : (0 : Int) ≠ 3)
          · refine x_if_ne (tgt := 1385) dL_law_1370 rfl b530 (?_ : Ex _ _ 1385 _ _ _ _ _)
            refine x_goto (tgt := 2241) dL_law_1385 rfl (?_ : Ex _ _ 2241 _ _ _ _ _)
            obtain ⟨c531, h⟩ := chk_some h
            refine x_iinc (ls2 := [(7, 0), (21, l1), (22, l2), (300001, l3), (0, (l4 + 5)), (0, v515), (0, v523)]) dL_law_2241 rfl c531 rfl (?_ : Ex _ _ 2244 _ _ _ _ _)
            refine x_goto (tgt := 23) dL_law_2244 rfl (?_ : Ex _ _ 23 _ _ _ _ _)
            refine Ex.wk (ls2 := [(7, 0), (21, l1), (22, l2), (300001, l3), (0, (l4 + 5)), (3, 0), (3, 0)]) ⟨Or.inr rfl, Or.inr rfl, Or.inr rfl, Or.inr rfl, Or.inr rfl, Or.inl rfl, Or.inl rfl, trivial⟩ ?_
            exact ih h
        · refine x_icmp_eqN dL_law_1363 (by decide) b529 (?_ : Ex _ _ 1366 _ _ _ _ _)
          refine x_iconst dL_law_1366 rfl (by decide) (?_ : Ex _ _ 1367 _ _ _ _ _)
          cases h
          exact x_ret dL_law_1367 (by decide : (0 : Int) ≠ 3)
      rcases ite_some h with ⟨b535, h⟩ | ⟨b535, h⟩
      · refine y_tableAt (j := 18) (off := 1349) (tgt := 1388) b535 dL_law_39 (by decide) (by decide) rfl rfl (?_ : Ex _ _ 1388 _ _ _ _ _)
        refine x_aload_n dL_law_1388 rfl rfl (Or.inr (by decide)) (?_ : Ex _ _ 1389 _ _ _ _ _)
        obtain ⟨c536, h⟩ := chk_some h
        obtain ⟨v537, m538, g539, h⟩ := cal_some h
        refine cV0 (e_X11_clock (d + 46) g539) (contN (by decide) (?_ : Ex _ _ 1392 _ _ _ _ _)) og_X11_clock rfl ml_RL_183 11 rfl rfl c536 im_X11_clock se_X11_clock (Nat.le_of_ble_eq_true rfl) dL_law_1389
        refine x_aload_n dL_law_1392 rfl rfl (Or.inr (by decide)) (?_ : Ex _ _ 1393 _ _ _ _ _)
        obtain ⟨c540, h⟩ := chk_some h
        obtain ⟨v541, m542, g543, h⟩ := cal_some h
        refine cV0 (e_X12_clock (d + 46) g543) (contN (by decide) (?_ : Ex _ _ 1396 _ _ _ _ _)) og_X12_clock rfl ml_RL_186 12 rfl rfl c540 im_X12_clock se_X12_clock (Nat.le_of_ble_eq_true rfl) dL_law_1393
        rcases ite_some h with ⟨b544, h⟩ | ⟨b544, h⟩
        · refine x_icmp_eq (tgt := 2241) dL_law_1396 rfl b544 (?_ : Ex _ _ 2241 _ _ _ _ _)
          obtain ⟨c545, h⟩ := chk_some h
          refine x_iinc (ls2 := [(7, 0), (21, l1), (22, l2), (300001, l3), (0, (l4 + 5)), (3, 0), (3, 0)]) dL_law_2241 rfl c545 rfl (?_ : Ex _ _ 2244 _ _ _ _ _)
          refine x_goto (tgt := 23) dL_law_2244 rfl (?_ : Ex _ _ 23 _ _ _ _ _)
          exact ih h
        · refine x_icmp_eqN dL_law_1396 (by decide) b544 (?_ : Ex _ _ 1399 _ _ _ _ _)
          refine x_iconst dL_law_1399 rfl (by decide) (?_ : Ex _ _ 1400 _ _ _ _ _)
          cases h
          exact x_ret dL_law_1400 (by decide : (0 : Int) ≠ 3)
      rcases ite_some h with ⟨b546, h⟩ | ⟨b546, h⟩
      · refine y_tableAt (j := 19) (off := 1362) (tgt := 1401) b546 dL_law_39 (by decide) (by decide) rfl rfl (?_ : Ex _ _ 1401 _ _ _ _ _)
        refine x_aload_n dL_law_1401 rfl rfl (Or.inr (by decide)) (?_ : Ex _ _ 1402 _ _ _ _ _)
        obtain ⟨c547, h⟩ := chk_some h
        obtain ⟨v548, m549, g550, h⟩ := cal_some h
        refine cV0 (e_X11_workflows (d + 46) g550) (contN (by decide) (?_ : Ex _ _ 1405 _ _ _ _ _)) og_X11_workflows rfl ml_RL_187 11 rfl rfl c547 im_X11_workflows se_X11_workflows (Nat.le_of_ble_eq_true rfl) dL_law_1402
        refine x_aload_n dL_law_1405 rfl rfl (Or.inr (by decide)) (?_ : Ex _ _ 1406 _ _ _ _ _)
        obtain ⟨c551, h⟩ := chk_some h
        obtain ⟨v552, m553, g554, h⟩ := cal_some h
        refine cV0 (e_X12_workflows (d + 46) g554) (contN (by decide) (?_ : Ex _ _ 1409 _ _ _ _ _)) og_X12_workflows rfl ml_RL_190 12 rfl rfl c551 im_X12_workflows se_X12_workflows (Nat.le_of_ble_eq_true rfl) dL_law_1406
        rcases ite_some h with ⟨b555, h⟩ | ⟨b555, h⟩
        · refine x_icmp_eq (tgt := 2241) dL_law_1409 rfl b555 (?_ : Ex _ _ 2241 _ _ _ _ _)
          obtain ⟨c556, h⟩ := chk_some h
          refine x_iinc (ls2 := [(7, 0), (21, l1), (22, l2), (300001, l3), (0, (l4 + 5)), (3, 0), (3, 0)]) dL_law_2241 rfl c556 rfl (?_ : Ex _ _ 2244 _ _ _ _ _)
          refine x_goto (tgt := 23) dL_law_2244 rfl (?_ : Ex _ _ 23 _ _ _ _ _)
          exact ih h
        · refine x_icmp_eqN dL_law_1409 (by decide) b555 (?_ : Ex _ _ 1412 _ _ _ _ _)
          refine x_iconst dL_law_1412 rfl (by decide) (?_ : Ex _ _ 1413 _ _ _ _ _)
          cases h
          exact x_ret dL_law_1413 (by decide : (0 : Int) ≠ 3)
      rcases ite_some h with ⟨b557, h⟩ | ⟨b557, h⟩
      · refine y_tableAt (j := 20) (off := 1375) (tgt := 1414) b557 dL_law_39 (by decide) (by decide) rfl rfl (?_ : Ex _ _ 1414 _ _ _ _ _)
        refine x_aload_n dL_law_1414 rfl rfl (Or.inr (by decide)) (?_ : Ex _ _ 1415 _ _ _ _ _)
        refine x_aload_n dL_law_1415 rfl rfl (Or.inl rfl) (?_ : Ex _ _ 1416 _ _ _ _ _)
        refine x_iload dL_law_1416 rfl (?_ : Ex _ _ 1418 _ _ _ _ _)
        refine x_iconst dL_law_1418 rfl (by decide) (?_ : Ex _ _ 1419 _ _ _ _ _)
        obtain ⟨c558, h⟩ := chk_some h
        refine x_iadd dL_law_1419 c558 (?_ : Ex _ _ 1420 _ _ _ _ _)
        obtain ⟨⟨c559, c560, c561⟩, h⟩ := chk_some h
        refine x_sld c559 c560 c561 dL_law_1420 (?_ : Ex _ _ 1421 _ _ _ _ _)
        refine x_aload_n dL_law_1421 rfl rfl (Or.inr (by decide)) (?_ : Ex _ _ 1422 _ _ _ _ _)
        obtain ⟨v562, m563, g564, h⟩ := cal_some h
        refine cW3 (e_L_parent (d + 43) g564) (by decide) (?_ : Ex _ _ 1425 _ _ _ _ _) og_L_parent (List.cons_ne_nil _ _) ml_RL_191 sm_L_parent (Nat.le_of_ble_eq_true rfl) dL_law_1422
        refine x_istore (ls2 := [(7, 0), (21, l1), (22, l2), (300001, l3), (0, l4), (0, v562), (3, 0)]) dL_law_1425 (Nat.le_of_ble_eq_true rfl) rfl (?_ : Ex _ _ 1427 _ _ _ _ _)
        refine x_aload_n dL_law_1427 rfl rfl (Or.inr (by decide)) (?_ : Ex _ _ 1428 _ _ _ _ _)
        refine x_aload_n dL_law_1428 rfl rfl (Or.inl rfl) (?_ : Ex _ _ 1429 _ _ _ _ _)
        refine x_iload dL_law_1429 rfl (?_ : Ex _ _ 1431 _ _ _ _ _)
        refine x_iconst dL_law_1431 rfl (by decide) (?_ : Ex _ _ 1432 _ _ _ _ _)
        obtain ⟨c565, h⟩ := chk_some h
        refine x_iadd dL_law_1432 c565 (?_ : Ex _ _ 1433 _ _ _ _ _)
        obtain ⟨⟨c566, c567, c568⟩, h⟩ := chk_some h
        refine x_sld c566 c567 c568 dL_law_1433 (?_ : Ex _ _ 1434 _ _ _ _ _)
        obtain ⟨c569, h⟩ := chk_some h
        obtain ⟨v570, m571, g572, h⟩ := cal_some h
        refine cV1 (e_X12_parent (d + 44) g572) (contN (by decide) (?_ : Ex _ _ 1437 _ _ _ _ _)) og_X12_parent rfl ml_RL_193 12 rfl rfl c569 im_X12_parent se_X12_parent (Nat.le_of_ble_eq_true rfl) dL_law_1434
        refine x_istore (ls2 := [(7, 0), (21, l1), (22, l2), (300001, l3), (0, l4), (0, v562), (0, v570)]) dL_law_1437 (Nat.le_of_ble_eq_true rfl) rfl (?_ : Ex _ _ 1439 _ _ _ _ _)
        refine x_aload_n dL_law_1439 rfl rfl (Or.inr (by decide)) (?_ : Ex _ _ 1440 _ _ _ _ _)
        obtain ⟨v573, m574, g575, h⟩ := cal_some h
        refine cV0 (e_X12_thrown (d + 46) g575) (contN (by decide) (?_ : Ex _ _ 1443 _ _ _ _ _)) og_X12_thrown rfl ml_RL_124 12 rfl rfl c569 im_X12_thrown se_X12_thrown (Nat.le_of_ble_eq_true rfl) dL_law_1440
        refine x_iload dL_law_1443 rfl (?_ : Ex _ _ 1445 _ _ _ _ _)
        rcases ite_some h with ⟨b576, h⟩ | ⟨b576, h⟩
        · refine x_icmp_eq (tgt := 1450) dL_law_1445 rfl b576 (?_ : Ex _ _ 1450 _ _ _ _ _)
          refine x_iload dL_law_1450 rfl (?_ : Ex _ _ 1452 _ _ _ _ _)
          rcases ite_some h with ⟨b577, h⟩ | ⟨b577, h⟩
          · refine x_if_neN dL_law_1452 (by decide) (fun hh => hh b577) (?_ : Ex _ _ 1455 _ _ _ _ _)
            refine x_aload_n dL_law_1455 rfl rfl (Or.inr (by decide)) (?_ : Ex _ _ 1456 _ _ _ _ _)
            refine x_iconst dL_law_1456 rfl (by decide) (?_ : Ex _ _ 1457 _ _ _ _ _)
            obtain ⟨c579, h⟩ := chk_some h
            refine ld_l_1 c579 (by decide) (by decide) dL_law_1457 (?_ : Ex _ _ 1458 _ _ _ _ _)
            refine x_iload dL_law_1458 rfl (?_ : Ex _ _ 1460 _ _ _ _ _)
            refine x_i2l dL_law_1460 (?_ : Ex _ _ 1461 _ _ _ _ _)
            refine x_lcmp dL_law_1461 (?_ : Ex _ _ 1462 _ _ _ _ _)
            rcases ite_some h with ⟨b580, h⟩ | ⟨b580, h⟩
            · refine x_if_eq (tgt := 1467) dL_law_1462 rfl b580 (?_ : Ex _ _ 1467 _ _ _ _ _)
              refine x_goto (tgt := 2241) dL_law_1467 rfl (?_ : Ex _ _ 2241 _ _ _ _ _)
              obtain ⟨c581, h⟩ := chk_some h
              refine x_iinc (ls2 := [(7, 0), (21, l1), (22, l2), (300001, l3), (0, (l4 + 5)), (0, v562), (0, v570)]) dL_law_2241 rfl c581 rfl (?_ : Ex _ _ 2244 _ _ _ _ _)
              refine x_goto (tgt := 23) dL_law_2244 rfl (?_ : Ex _ _ 23 _ _ _ _ _)
              refine Ex.wk (ls2 := [(7, 0), (21, l1), (22, l2), (300001, l3), (0, (l4 + 5)), (3, 0), (3, 0)]) ⟨Or.inr rfl, Or.inr rfl, Or.inr rfl, Or.inr rfl, Or.inr rfl, Or.inl rfl, Or.inl rfl, trivial⟩ ?_
              exact ih h
            · refine x_if_eqN dL_law_1462 (by decide) b580 (?_ : Ex _ _ 1465 _ _ _ _ _)
              refine x_iconst dL_law_1465 rfl (by decide) (?_ : Ex _ _ 1466 _ _ _ _ _)
              cases h
              exact x_ret dL_law_1466 (by decide : (0 : Int) ≠ 3)
          · refine x_if_ne (tgt := 1467) dL_law_1452 rfl b577 (?_ : Ex _ _ 1467 _ _ _ _ _)
            refine x_goto (tgt := 2241) dL_law_1467 rfl (?_ : Ex _ _ 2241 _ _ _ _ _)
            obtain ⟨c578, h⟩ := chk_some h
            refine x_iinc (ls2 := [(7, 0), (21, l1), (22, l2), (300001, l3), (0, (l4 + 5)), (0, v562), (0, v570)]) dL_law_2241 rfl c578 rfl (?_ : Ex _ _ 2244 _ _ _ _ _)
            refine x_goto (tgt := 23) dL_law_2244 rfl (?_ : Ex _ _ 23 _ _ _ _ _)
            refine Ex.wk (ls2 := [(7, 0), (21, l1), (22, l2), (300001, l3), (0, (l4 + 5)), (3, 0), (3, 0)]) ⟨Or.inr rfl, Or.inr rfl, Or.inr rfl, Or.inr rfl, Or.inr rfl, Or.inl rfl, Or.inl rfl, trivial⟩ ?_
            exact ih h
        · refine x_icmp_eqN dL_law_1445 (by decide) b576 (?_ : Ex _ _ 1448 _ _ _ _ _)
          refine x_iconst dL_law_1448 rfl (by decide) (?_ : Ex _ _ 1449 _ _ _ _ _)
          cases h
          exact x_ret dL_law_1449 (by decide : (0 : Int) ≠ 3)
      rcases ite_some h with ⟨b582, h⟩ | ⟨b582, h⟩
      · refine y_tableAt (j := 21) (off := 1431) (tgt := 1470) b582 dL_law_39 (by decide) (by decide) rfl rfl (?_ : Ex _ _ 1470 _ _ _ _ _)
        refine x_aload_n dL_law_1470 rfl rfl (Or.inr (by decide)) (?_ : Ex _ _ 1471 _ _ _ _ _)
        refine x_aload_n dL_law_1471 rfl rfl (Or.inl rfl) (?_ : Ex _ _ 1472 _ _ _ _ _)
        refine x_iload dL_law_1472 rfl (?_ : Ex _ _ 1474 _ _ _ _ _)
        refine x_iconst dL_law_1474 rfl (by decide) (?_ : Ex _ _ 1475 _ _ _ _ _)
        obtain ⟨c583, h⟩ := chk_some h
        refine x_iadd dL_law_1475 c583 (?_ : Ex _ _ 1476 _ _ _ _ _)
        obtain ⟨⟨c584, c585, c586⟩, h⟩ := chk_some h
        refine x_sld c584 c585 c586 dL_law_1476 (?_ : Ex _ _ 1477 _ _ _ _ _)
        refine x_aload_n dL_law_1477 rfl rfl (Or.inr (by decide)) (?_ : Ex _ _ 1478 _ _ _ _ _)
        obtain ⟨v587, m588, g589, h⟩ := cal_some h
        refine cW3 (e_L_runs (d + 43) g589) (by decide) (?_ : Ex _ _ 1481 _ _ _ _ _) og_L_runs (List.cons_ne_nil _ _) ml_RL_194 sm_L_runs (Nat.le_of_ble_eq_true rfl) dL_law_1478
        refine x_istore (ls2 := [(7, 0), (21, l1), (22, l2), (300001, l3), (0, l4), (0, v587), (3, 0)]) dL_law_1481 (Nat.le_of_ble_eq_true rfl) rfl (?_ : Ex _ _ 1483 _ _ _ _ _)
        refine x_aload_n dL_law_1483 rfl rfl (Or.inr (by decide)) (?_ : Ex _ _ 1484 _ _ _ _ _)
        refine x_aload_n dL_law_1484 rfl rfl (Or.inl rfl) (?_ : Ex _ _ 1485 _ _ _ _ _)
        refine x_iload dL_law_1485 rfl (?_ : Ex _ _ 1487 _ _ _ _ _)
        refine x_iconst dL_law_1487 rfl (by decide) (?_ : Ex _ _ 1488 _ _ _ _ _)
        obtain ⟨c590, h⟩ := chk_some h
        refine x_iadd dL_law_1488 c590 (?_ : Ex _ _ 1489 _ _ _ _ _)
        obtain ⟨⟨c591, c592, c593⟩, h⟩ := chk_some h
        refine x_sld c591 c592 c593 dL_law_1489 (?_ : Ex _ _ 1490 _ _ _ _ _)
        obtain ⟨c594, h⟩ := chk_some h
        obtain ⟨v595, m596, g597, h⟩ := cal_some h
        refine cV1 (e_X12_runs (d + 44) g597) (contN (by decide) (?_ : Ex _ _ 1493 _ _ _ _ _)) og_X12_runs rfl ml_RL_196 12 rfl rfl c594 im_X12_runs se_X12_runs (Nat.le_of_ble_eq_true rfl) dL_law_1490
        refine x_istore (ls2 := [(7, 0), (21, l1), (22, l2), (300001, l3), (0, l4), (0, v587), (0, v595)]) dL_law_1493 (Nat.le_of_ble_eq_true rfl) rfl (?_ : Ex _ _ 1495 _ _ _ _ _)
        refine x_aload_n dL_law_1495 rfl rfl (Or.inr (by decide)) (?_ : Ex _ _ 1496 _ _ _ _ _)
        obtain ⟨v598, m599, g600, h⟩ := cal_some h
        refine cV0 (e_X12_thrown (d + 46) g600) (contN (by decide) (?_ : Ex _ _ 1499 _ _ _ _ _)) og_X12_thrown rfl ml_RL_124 12 rfl rfl c594 im_X12_thrown se_X12_thrown (Nat.le_of_ble_eq_true rfl) dL_law_1496
        refine x_iload dL_law_1499 rfl (?_ : Ex _ _ 1501 _ _ _ _ _)
        rcases ite_some h with ⟨b601, h⟩ | ⟨b601, h⟩
        · refine x_icmp_eq (tgt := 1506) dL_law_1501 rfl b601 (?_ : Ex _ _ 1506 _ _ _ _ _)
          refine x_iload dL_law_1506 rfl (?_ : Ex _ _ 1508 _ _ _ _ _)
          rcases ite_some h with ⟨b602, h⟩ | ⟨b602, h⟩
          · refine x_if_neN dL_law_1508 (by decide) (fun hh => hh b602) (?_ : Ex _ _ 1511 _ _ _ _ _)
            refine x_aload_n dL_law_1511 rfl rfl (Or.inr (by decide)) (?_ : Ex _ _ 1512 _ _ _ _ _)
            refine x_iconst dL_law_1512 rfl (by decide) (?_ : Ex _ _ 1513 _ _ _ _ _)
            obtain ⟨c604, h⟩ := chk_some h
            refine ld_l_1 c604 (by decide) (by decide) dL_law_1513 (?_ : Ex _ _ 1514 _ _ _ _ _)
            refine x_iload dL_law_1514 rfl (?_ : Ex _ _ 1516 _ _ _ _ _)
            refine x_i2l dL_law_1516 (?_ : Ex _ _ 1517 _ _ _ _ _)
            refine x_lcmp dL_law_1517 (?_ : Ex _ _ 1518 _ _ _ _ _)
            rcases ite_some h with ⟨b605, h⟩ | ⟨b605, h⟩
            · refine x_if_eq (tgt := 1523) dL_law_1518 rfl b605 (?_ : Ex _ _ 1523 _ _ _ _ _)
              refine x_goto (tgt := 2241) dL_law_1523 rfl (?_ : Ex _ _ 2241 _ _ _ _ _)
              obtain ⟨c606, h⟩ := chk_some h
              refine x_iinc (ls2 := [(7, 0), (21, l1), (22, l2), (300001, l3), (0, (l4 + 5)), (0, v587), (0, v595)]) dL_law_2241 rfl c606 rfl (?_ : Ex _ _ 2244 _ _ _ _ _)
              refine x_goto (tgt := 23) dL_law_2244 rfl (?_ : Ex _ _ 23 _ _ _ _ _)
              refine Ex.wk (ls2 := [(7, 0), (21, l1), (22, l2), (300001, l3), (0, (l4 + 5)), (3, 0), (3, 0)]) ⟨Or.inr rfl, Or.inr rfl, Or.inr rfl, Or.inr rfl, Or.inr rfl, Or.inl rfl, Or.inl rfl, trivial⟩ ?_
              exact ih h
            · refine x_if_eqN dL_law_1518 (by decide) b605 (?_ : Ex _ _ 1521 _ _ _ _ _)
              refine x_iconst dL_law_1521 rfl (by decide) (?_ : Ex _ _ 1522 _ _ _ _ _)
              cases h
              exact x_ret dL_law_1522 (by decide : (0 : Int) ≠ 3)
          · refine x_if_ne (tgt := 1523) dL_law_1508 rfl b602 (?_ : Ex _ _ 1523 _ _ _ _ _)
            refine x_goto (tgt := 2241) dL_law_1523 rfl (?_ : Ex _ _ 2241 _ _ _ _ _)
            obtain ⟨c603, h⟩ := chk_some h
            refine x_iinc (ls2 := [(7, 0), (21, l1), (22, l2), (300001, l3), (0, (l4 + 5)), (0, v587), (0, v595)]) dL_law_2241 rfl c603 rfl (?_ : Ex _ _ 2244 _ _ _ _ _)
            refine x_goto (tgt := 23) dL_law_2244 rfl (?_ : Ex _ _ 23 _ _ _ _ _)
            refine Ex.wk (ls2 := [(7, 0), (21, l1), (22, l2), (300001, l3), (0, (l4 + 5)), (3, 0), (3, 0)]) ⟨Or.inr rfl, Or.inr rfl, Or.inr rfl, Or.inr rfl, Or.inr rfl, Or.inl rfl, Or.inl rfl, trivial⟩ ?_
            exact ih h
        · refine x_icmp_eqN dL_law_1501 (by decide) b601 (?_ : Ex _ _ 1504 _ _ _ _ _)
          refine x_iconst dL_law_1504 rfl (by decide) (?_ : Ex _ _ 1505 _ _ _ _ _)
          cases h
          exact x_ret dL_law_1505 (by decide : (0 : Int) ≠ 3)
      rcases ite_some h with ⟨b607, h⟩ | ⟨b607, h⟩
      · refine y_tableAt (j := 22) (off := 1487) (tgt := 1526) b607 dL_law_39 (by decide) (by decide) rfl rfl (?_ : Ex _ _ 1526 _ _ _ _ _)
        refine x_aload_n dL_law_1526 rfl rfl (Or.inr (by decide)) (?_ : Ex _ _ 1527 _ _ _ _ _)
        refine x_aload_n dL_law_1527 rfl rfl (Or.inl rfl) (?_ : Ex _ _ 1528 _ _ _ _ _)
        refine x_iload dL_law_1528 rfl (?_ : Ex _ _ 1530 _ _ _ _ _)
        refine x_iconst dL_law_1530 rfl (by decide) (?_ : Ex _ _ 1531 _ _ _ _ _)
        obtain ⟨c608, h⟩ := chk_some h
        refine x_iadd dL_law_1531 c608 (?_ : Ex _ _ 1532 _ _ _ _ _)
        obtain ⟨⟨c609, c610, c611⟩, h⟩ := chk_some h
        refine x_sld c609 c610 c611 dL_law_1532 (?_ : Ex _ _ 1533 _ _ _ _ _)
        refine x_aload_n dL_law_1533 rfl rfl (Or.inl rfl) (?_ : Ex _ _ 1534 _ _ _ _ _)
        refine x_iload dL_law_1534 rfl (?_ : Ex _ _ 1536 _ _ _ _ _)
        refine x_iconst dL_law_1536 rfl (by decide) (?_ : Ex _ _ 1537 _ _ _ _ _)
        obtain ⟨c612, h⟩ := chk_some h
        refine x_iadd dL_law_1537 c612 (?_ : Ex _ _ 1538 _ _ _ _ _)
        obtain ⟨⟨c613, c614, c615⟩, h⟩ := chk_some h
        refine x_sld c613 c614 c615 dL_law_1538 (?_ : Ex _ _ 1539 _ _ _ _ _)
        refine x_aload_n dL_law_1539 rfl rfl (Or.inr (by decide)) (?_ : Ex _ _ 1540 _ _ _ _ _)
        obtain ⟨v616, m617, g618, h⟩ := cal_some h
        refine cW4 (e_L_state (d + 42) g618) (by decide) (?_ : Ex _ _ 1543 _ _ _ _ _) og_L_state (List.cons_ne_nil _ _) ml_RL_197 sm_L_state (Nat.le_of_ble_eq_true rfl) dL_law_1540
        refine x_istore (ls2 := [(7, 0), (21, l1), (22, l2), (300001, l3), (0, l4), (0, v616), (3, 0)]) dL_law_1543 (Nat.le_of_ble_eq_true rfl) rfl (?_ : Ex _ _ 1545 _ _ _ _ _)
        refine x_aload_n dL_law_1545 rfl rfl (Or.inr (by decide)) (?_ : Ex _ _ 1546 _ _ _ _ _)
        refine x_aload_n dL_law_1546 rfl rfl (Or.inl rfl) (?_ : Ex _ _ 1547 _ _ _ _ _)
        refine x_iload dL_law_1547 rfl (?_ : Ex _ _ 1549 _ _ _ _ _)
        refine x_iconst dL_law_1549 rfl (by decide) (?_ : Ex _ _ 1550 _ _ _ _ _)
        obtain ⟨c619, h⟩ := chk_some h
        refine x_iadd dL_law_1550 c619 (?_ : Ex _ _ 1551 _ _ _ _ _)
        obtain ⟨⟨c620, c621, c622⟩, h⟩ := chk_some h
        refine x_sld c620 c621 c622 dL_law_1551 (?_ : Ex _ _ 1552 _ _ _ _ _)
        refine x_aload_n dL_law_1552 rfl rfl (Or.inl rfl) (?_ : Ex _ _ 1553 _ _ _ _ _)
        refine x_iload dL_law_1553 rfl (?_ : Ex _ _ 1555 _ _ _ _ _)
        refine x_iconst dL_law_1555 rfl (by decide) (?_ : Ex _ _ 1556 _ _ _ _ _)
        obtain ⟨c623, h⟩ := chk_some h
        refine x_iadd dL_law_1556 c623 (?_ : Ex _ _ 1557 _ _ _ _ _)
        obtain ⟨⟨c624, c625, c626⟩, h⟩ := chk_some h
        refine x_sld c624 c625 c626 dL_law_1557 (?_ : Ex _ _ 1558 _ _ _ _ _)
        obtain ⟨c627, h⟩ := chk_some h
        obtain ⟨v628, m629, g630, h⟩ := cal_some h
        refine cV2 (e_X12_state (d + 43) g630) (contN (by decide) (?_ : Ex _ _ 1561 _ _ _ _ _)) og_X12_state rfl ml_RL_199 12 rfl rfl c627 im_X12_state se_X12_state (Nat.le_of_ble_eq_true rfl) dL_law_1558
        refine x_istore (ls2 := [(7, 0), (21, l1), (22, l2), (300001, l3), (0, l4), (0, v616), (0, v628)]) dL_law_1561 (Nat.le_of_ble_eq_true rfl) rfl (?_ : Ex _ _ 1563 _ _ _ _ _)
        refine x_aload_n dL_law_1563 rfl rfl (Or.inr (by decide)) (?_ : Ex _ _ 1564 _ _ _ _ _)
        obtain ⟨v631, m632, g633, h⟩ := cal_some h
        refine cV0 (e_X12_thrown (d + 46) g633) (contN (by decide) (?_ : Ex _ _ 1567 _ _ _ _ _)) og_X12_thrown rfl ml_RL_124 12 rfl rfl c627 im_X12_thrown se_X12_thrown (Nat.le_of_ble_eq_true rfl) dL_law_1564
        refine x_iload dL_law_1567 rfl (?_ : Ex _ _ 1569 _ _ _ _ _)
        rcases ite_some h with ⟨b634, h⟩ | ⟨b634, h⟩
        · refine x_icmp_eq (tgt := 1574) dL_law_1569 rfl b634 (?_ : Ex _ _ 1574 _ _ _ _ _)
          refine x_iload dL_law_1574 rfl (?_ : Ex _ _ 1576 _ _ _ _ _)
          rcases ite_some h with ⟨b635, h⟩ | ⟨b635, h⟩
          · refine x_if_neN dL_law_1576 (by decide) (fun hh => hh b635) (?_ : Ex _ _ 1579 _ _ _ _ _)
            refine x_aload_n dL_law_1579 rfl rfl (Or.inr (by decide)) (?_ : Ex _ _ 1580 _ _ _ _ _)
            refine x_iconst dL_law_1580 rfl (by decide) (?_ : Ex _ _ 1581 _ _ _ _ _)
            obtain ⟨c637, h⟩ := chk_some h
            refine ld_l_1 c637 (by decide) (by decide) dL_law_1581 (?_ : Ex _ _ 1582 _ _ _ _ _)
            refine x_iload dL_law_1582 rfl (?_ : Ex _ _ 1584 _ _ _ _ _)
            refine x_i2l dL_law_1584 (?_ : Ex _ _ 1585 _ _ _ _ _)
            refine x_lcmp dL_law_1585 (?_ : Ex _ _ 1586 _ _ _ _ _)
            rcases ite_some h with ⟨b638, h⟩ | ⟨b638, h⟩
            · refine x_if_eq (tgt := 1591) dL_law_1586 rfl b638 (?_ : Ex _ _ 1591 _ _ _ _ _)
              refine x_goto (tgt := 2241) dL_law_1591 rfl (?_ : Ex _ _ 2241 _ _ _ _ _)
              obtain ⟨c639, h⟩ := chk_some h
              refine x_iinc (ls2 := [(7, 0), (21, l1), (22, l2), (300001, l3), (0, (l4 + 5)), (0, v616), (0, v628)]) dL_law_2241 rfl c639 rfl (?_ : Ex _ _ 2244 _ _ _ _ _)
              refine x_goto (tgt := 23) dL_law_2244 rfl (?_ : Ex _ _ 23 _ _ _ _ _)
              refine Ex.wk (ls2 := [(7, 0), (21, l1), (22, l2), (300001, l3), (0, (l4 + 5)), (3, 0), (3, 0)]) ⟨Or.inr rfl, Or.inr rfl, Or.inr rfl, Or.inr rfl, Or.inr rfl, Or.inl rfl, Or.inl rfl, trivial⟩ ?_
              exact ih h
            · refine x_if_eqN dL_law_1586 (by decide) b638 (?_ : Ex _ _ 1589 _ _ _ _ _)
              refine x_iconst dL_law_1589 rfl (by decide) (?_ : Ex _ _ 1590 _ _ _ _ _)
              cases h
              exact x_ret dL_law_1590 (by decide : (0 : Int) ≠ 3)
          · refine x_if_ne (tgt := 1591) dL_law_1576 rfl b635 (?_ : Ex _ _ 1591 _ _ _ _ _)
            refine x_goto (tgt := 2241) dL_law_1591 rfl (?_ : Ex _ _ 2241 _ _ _ _ _)
            obtain ⟨c636, h⟩ := chk_some h
            refine x_iinc (ls2 := [(7, 0), (21, l1), (22, l2), (300001, l3), (0, (l4 + 5)), (0, v616), (0, v628)]) dL_law_2241 rfl c636 rfl (?_ : Ex _ _ 2244 _ _ _ _ _)
            refine x_goto (tgt := 23) dL_law_2244 rfl (?_ : Ex _ _ 23 _ _ _ _ _)
            refine Ex.wk (ls2 := [(7, 0), (21, l1), (22, l2), (300001, l3), (0, (l4 + 5)), (3, 0), (3, 0)]) ⟨Or.inr rfl, Or.inr rfl, Or.inr rfl, Or.inr rfl, Or.inr rfl, Or.inl rfl, Or.inl rfl, trivial⟩ ?_
            exact ih h
        · refine x_icmp_eqN dL_law_1569 (by decide) b634 (?_ : Ex _ _ 1572 _ _ _ _ _)
          refine x_iconst dL_law_1572 rfl (by decide) (?_ : Ex _ _ 1573 _ _ _ _ _)
          cases h
          exact x_ret dL_law_1573 (by decide : (0 : Int) ≠ 3)
      rcases ite_some h with ⟨b640, h⟩ | ⟨b640, h⟩
      · refine y_tableAt (j := 23) (off := 1555) (tgt := 1594) b640 dL_law_39 (by decide) (by decide) rfl rfl (?_ : Ex _ _ 1594 _ _ _ _ _)
        refine x_aload_n dL_law_1594 rfl rfl (Or.inr (by decide)) (?_ : Ex _ _ 1595 _ _ _ _ _)
        refine x_aload_n dL_law_1595 rfl rfl (Or.inl rfl) (?_ : Ex _ _ 1596 _ _ _ _ _)
        refine x_iload dL_law_1596 rfl (?_ : Ex _ _ 1598 _ _ _ _ _)
        refine x_iconst dL_law_1598 rfl (by decide) (?_ : Ex _ _ 1599 _ _ _ _ _)
        obtain ⟨c641, h⟩ := chk_some h
        refine x_iadd dL_law_1599 c641 (?_ : Ex _ _ 1600 _ _ _ _ _)
        obtain ⟨⟨c642, c643, c644⟩, h⟩ := chk_some h
        refine x_sld c642 c643 c644 dL_law_1600 (?_ : Ex _ _ 1601 _ _ _ _ _)
        refine x_aload_n dL_law_1601 rfl rfl (Or.inl rfl) (?_ : Ex _ _ 1602 _ _ _ _ _)
        refine x_iload dL_law_1602 rfl (?_ : Ex _ _ 1604 _ _ _ _ _)
        refine x_iconst dL_law_1604 rfl (by decide) (?_ : Ex _ _ 1605 _ _ _ _ _)
        obtain ⟨c645, h⟩ := chk_some h
        refine x_iadd dL_law_1605 c645 (?_ : Ex _ _ 1606 _ _ _ _ _)
        obtain ⟨⟨c646, c647, c648⟩, h⟩ := chk_some h
        refine x_sld c646 c647 c648 dL_law_1606 (?_ : Ex _ _ 1607 _ _ _ _ _)
        refine x_aload_n dL_law_1607 rfl rfl (Or.inr (by decide)) (?_ : Ex _ _ 1608 _ _ _ _ _)
        obtain ⟨v649, m650, g651, h⟩ := cal_some h
        refine cW4 (e_L_events (d + 42) g651) (by decide) (?_ : Ex _ _ 1611 _ _ _ _ _) og_L_events (List.cons_ne_nil _ _) ml_RL_200 sm_L_events (Nat.le_of_ble_eq_true rfl) dL_law_1608
        refine x_istore (ls2 := [(7, 0), (21, l1), (22, l2), (300001, l3), (0, l4), (0, v649), (3, 0)]) dL_law_1611 (Nat.le_of_ble_eq_true rfl) rfl (?_ : Ex _ _ 1613 _ _ _ _ _)
        refine x_aload_n dL_law_1613 rfl rfl (Or.inr (by decide)) (?_ : Ex _ _ 1614 _ _ _ _ _)
        refine x_aload_n dL_law_1614 rfl rfl (Or.inl rfl) (?_ : Ex _ _ 1615 _ _ _ _ _)
        refine x_iload dL_law_1615 rfl (?_ : Ex _ _ 1617 _ _ _ _ _)
        refine x_iconst dL_law_1617 rfl (by decide) (?_ : Ex _ _ 1618 _ _ _ _ _)
        obtain ⟨c652, h⟩ := chk_some h
        refine x_iadd dL_law_1618 c652 (?_ : Ex _ _ 1619 _ _ _ _ _)
        obtain ⟨⟨c653, c654, c655⟩, h⟩ := chk_some h
        refine x_sld c653 c654 c655 dL_law_1619 (?_ : Ex _ _ 1620 _ _ _ _ _)
        refine x_aload_n dL_law_1620 rfl rfl (Or.inl rfl) (?_ : Ex _ _ 1621 _ _ _ _ _)
        refine x_iload dL_law_1621 rfl (?_ : Ex _ _ 1623 _ _ _ _ _)
        refine x_iconst dL_law_1623 rfl (by decide) (?_ : Ex _ _ 1624 _ _ _ _ _)
        obtain ⟨c656, h⟩ := chk_some h
        refine x_iadd dL_law_1624 c656 (?_ : Ex _ _ 1625 _ _ _ _ _)
        obtain ⟨⟨c657, c658, c659⟩, h⟩ := chk_some h
        refine x_sld c657 c658 c659 dL_law_1625 (?_ : Ex _ _ 1626 _ _ _ _ _)
        obtain ⟨c660, h⟩ := chk_some h
        obtain ⟨v661, m662, g663, h⟩ := cal_some h
        refine cV2 (e_X12_events (d + 43) g663) (contN (by decide) (?_ : Ex _ _ 1629 _ _ _ _ _)) og_X12_events rfl ml_RL_202 12 rfl rfl c660 im_X12_events se_X12_events (Nat.le_of_ble_eq_true rfl) dL_law_1626
        refine x_istore (ls2 := [(7, 0), (21, l1), (22, l2), (300001, l3), (0, l4), (0, v649), (0, v661)]) dL_law_1629 (Nat.le_of_ble_eq_true rfl) rfl (?_ : Ex _ _ 1631 _ _ _ _ _)
        refine x_aload_n dL_law_1631 rfl rfl (Or.inr (by decide)) (?_ : Ex _ _ 1632 _ _ _ _ _)
        obtain ⟨v664, m665, g666, h⟩ := cal_some h
        refine cV0 (e_X12_thrown (d + 46) g666) (contN (by decide) (?_ : Ex _ _ 1635 _ _ _ _ _)) og_X12_thrown rfl ml_RL_124 12 rfl rfl c660 im_X12_thrown se_X12_thrown (Nat.le_of_ble_eq_true rfl) dL_law_1632
        refine x_iload dL_law_1635 rfl (?_ : Ex _ _ 1637 _ _ _ _ _)
        rcases ite_some h with ⟨b667, h⟩ | ⟨b667, h⟩
        · refine x_icmp_eq (tgt := 1642) dL_law_1637 rfl b667 (?_ : Ex _ _ 1642 _ _ _ _ _)
          refine x_iload dL_law_1642 rfl (?_ : Ex _ _ 1644 _ _ _ _ _)
          rcases ite_some h with ⟨b668, h⟩ | ⟨b668, h⟩
          · refine x_if_neN dL_law_1644 (by decide) (fun hh => hh b668) (?_ : Ex _ _ 1647 _ _ _ _ _)
            refine x_aload_n dL_law_1647 rfl rfl (Or.inr (by decide)) (?_ : Ex _ _ 1648 _ _ _ _ _)
            refine x_iconst dL_law_1648 rfl (by decide) (?_ : Ex _ _ 1649 _ _ _ _ _)
            obtain ⟨c670, h⟩ := chk_some h
            refine ld_l_1 c670 (by decide) (by decide) dL_law_1649 (?_ : Ex _ _ 1650 _ _ _ _ _)
            refine x_iload dL_law_1650 rfl (?_ : Ex _ _ 1652 _ _ _ _ _)
            refine x_i2l dL_law_1652 (?_ : Ex _ _ 1653 _ _ _ _ _)
            refine x_lcmp dL_law_1653 (?_ : Ex _ _ 1654 _ _ _ _ _)
            rcases ite_some h with ⟨b671, h⟩ | ⟨b671, h⟩
            · refine x_if_eq (tgt := 1659) dL_law_1654 rfl b671 (?_ : Ex _ _ 1659 _ _ _ _ _)
              refine x_goto (tgt := 2241) dL_law_1659 rfl (?_ : Ex _ _ 2241 _ _ _ _ _)
              obtain ⟨c672, h⟩ := chk_some h
              refine x_iinc (ls2 := [(7, 0), (21, l1), (22, l2), (300001, l3), (0, (l4 + 5)), (0, v649), (0, v661)]) dL_law_2241 rfl c672 rfl (?_ : Ex _ _ 2244 _ _ _ _ _)
              refine x_goto (tgt := 23) dL_law_2244 rfl (?_ : Ex _ _ 23 _ _ _ _ _)
              refine Ex.wk (ls2 := [(7, 0), (21, l1), (22, l2), (300001, l3), (0, (l4 + 5)), (3, 0), (3, 0)]) ⟨Or.inr rfl, Or.inr rfl, Or.inr rfl, Or.inr rfl, Or.inr rfl, Or.inl rfl, Or.inl rfl, trivial⟩ ?_
              exact ih h
            · refine x_if_eqN dL_law_1654 (by decide) b671 (?_ : Ex _ _ 1657 _ _ _ _ _)
              refine x_iconst dL_law_1657 rfl (by decide) (?_ : Ex _ _ 1658 _ _ _ _ _)
              cases h
              exact x_ret dL_law_1658 (by decide : (0 : Int) ≠ 3)
          · refine x_if_ne (tgt := 1659) dL_law_1644 rfl b668 (?_ : Ex _ _ 1659 _ _ _ _ _)
            refine x_goto (tgt := 2241) dL_law_1659 rfl (?_ : Ex _ _ 2241 _ _ _ _ _)
            obtain ⟨c669, h⟩ := chk_some h
            refine x_iinc (ls2 := [(7, 0), (21, l1), (22, l2), (300001, l3), (0, (l4 + 5)), (0, v649), (0, v661)]) dL_law_2241 rfl c669 rfl (?_ : Ex _ _ 2244 _ _ _ _ _)
            refine x_goto (tgt := 23) dL_law_2244 rfl (?_ : Ex _ _ 23 _ _ _ _ _)
            refine Ex.wk (ls2 := [(7, 0), (21, l1), (22, l2), (300001, l3), (0, (l4 + 5)), (3, 0), (3, 0)]) ⟨Or.inr rfl, Or.inr rfl, Or.inr rfl, Or.inr rfl, Or.inr rfl, Or.inl rfl, Or.inl rfl, trivial⟩ ?_
            exact ih h
        · refine x_icmp_eqN dL_law_1637 (by decide) b667 (?_ : Ex _ _ 1640 _ _ _ _ _)
          refine x_iconst dL_law_1640 rfl (by decide) (?_ : Ex _ _ 1641 _ _ _ _ _)
          cases h
          exact x_ret dL_law_1641 (by decide : (0 : Int) ≠ 3)
      rcases ite_some h with ⟨b673, h⟩ | ⟨b673, h⟩
      · refine y_tableAt (j := 24) (off := 1623) (tgt := 1662) b673 dL_law_39 (by decide) (by decide) rfl rfl (?_ : Ex _ _ 1662 _ _ _ _ _)
        refine x_aload_n dL_law_1662 rfl rfl (Or.inr (by decide)) (?_ : Ex _ _ 1663 _ _ _ _ _)
        refine x_aload_n dL_law_1663 rfl rfl (Or.inl rfl) (?_ : Ex _ _ 1664 _ _ _ _ _)
        refine x_iload dL_law_1664 rfl (?_ : Ex _ _ 1666 _ _ _ _ _)
        refine x_iconst dL_law_1666 rfl (by decide) (?_ : Ex _ _ 1667 _ _ _ _ _)
        obtain ⟨c674, h⟩ := chk_some h
        refine x_iadd dL_law_1667 c674 (?_ : Ex _ _ 1668 _ _ _ _ _)
        obtain ⟨⟨c675, c676, c677⟩, h⟩ := chk_some h
        refine x_sld c675 c676 c677 dL_law_1668 (?_ : Ex _ _ 1669 _ _ _ _ _)
        refine x_aload_n dL_law_1669 rfl rfl (Or.inl rfl) (?_ : Ex _ _ 1670 _ _ _ _ _)
        refine x_iload dL_law_1670 rfl (?_ : Ex _ _ 1672 _ _ _ _ _)
        refine x_iconst dL_law_1672 rfl (by decide) (?_ : Ex _ _ 1673 _ _ _ _ _)
        obtain ⟨c678, h⟩ := chk_some h
        refine x_iadd dL_law_1673 c678 (?_ : Ex _ _ 1674 _ _ _ _ _)
        obtain ⟨⟨c679, c680, c681⟩, h⟩ := chk_some h
        refine x_sld c679 c680 c681 dL_law_1674 (?_ : Ex _ _ 1675 _ _ _ _ _)
        refine x_aload_n dL_law_1675 rfl rfl (Or.inl rfl) (?_ : Ex _ _ 1676 _ _ _ _ _)
        refine x_iload dL_law_1676 rfl (?_ : Ex _ _ 1678 _ _ _ _ _)
        refine x_iconst dL_law_1678 rfl (by decide) (?_ : Ex _ _ 1679 _ _ _ _ _)
        obtain ⟨c682, h⟩ := chk_some h
        refine x_iadd dL_law_1679 c682 (?_ : Ex _ _ 1680 _ _ _ _ _)
        obtain ⟨⟨c683, c684, c685⟩, h⟩ := chk_some h
        refine x_sld c683 c684 c685 dL_law_1680 (?_ : Ex _ _ 1681 _ _ _ _ _)
        refine x_aload_n dL_law_1681 rfl rfl (Or.inr (by decide)) (?_ : Ex _ _ 1682 _ _ _ _ _)
        obtain ⟨v686, m687, g688, h⟩ := cal_some h
        refine cW5 (e_L_eventKind (d + 41) g688) (by decide) (?_ : Ex _ _ 1685 _ _ _ _ _) og_L_eventKind (List.cons_ne_nil _ _) ml_RL_203 sm_L_eventKind (Nat.le_of_ble_eq_true rfl) dL_law_1682
        refine x_istore (ls2 := [(7, 0), (21, l1), (22, l2), (300001, l3), (0, l4), (0, v686), (3, 0)]) dL_law_1685 (Nat.le_of_ble_eq_true rfl) rfl (?_ : Ex _ _ 1687 _ _ _ _ _)
        refine x_aload_n dL_law_1687 rfl rfl (Or.inr (by decide)) (?_ : Ex _ _ 1688 _ _ _ _ _)
        refine x_aload_n dL_law_1688 rfl rfl (Or.inl rfl) (?_ : Ex _ _ 1689 _ _ _ _ _)
        refine x_iload dL_law_1689 rfl (?_ : Ex _ _ 1691 _ _ _ _ _)
        refine x_iconst dL_law_1691 rfl (by decide) (?_ : Ex _ _ 1692 _ _ _ _ _)
        obtain ⟨c689, h⟩ := chk_some h
        refine x_iadd dL_law_1692 c689 (?_ : Ex _ _ 1693 _ _ _ _ _)
        obtain ⟨⟨c690, c691, c692⟩, h⟩ := chk_some h
        refine x_sld c690 c691 c692 dL_law_1693 (?_ : Ex _ _ 1694 _ _ _ _ _)
        refine x_aload_n dL_law_1694 rfl rfl (Or.inl rfl) (?_ : Ex _ _ 1695 _ _ _ _ _)
        refine x_iload dL_law_1695 rfl (?_ : Ex _ _ 1697 _ _ _ _ _)
        refine x_iconst dL_law_1697 rfl (by decide) (?_ : Ex _ _ 1698 _ _ _ _ _)
        obtain ⟨c693, h⟩ := chk_some h
        refine x_iadd dL_law_1698 c693 (?_ : Ex _ _ 1699 _ _ _ _ _)
        obtain ⟨⟨c694, c695, c696⟩, h⟩ := chk_some h
        refine x_sld c694 c695 c696 dL_law_1699 (?_ : Ex _ _ 1700 _ _ _ _ _)
        refine x_aload_n dL_law_1700 rfl rfl (Or.inl rfl) (?_ : Ex _ _ 1701 _ _ _ _ _)
        refine x_iload dL_law_1701 rfl (?_ : Ex _ _ 1703 _ _ _ _ _)
        refine x_iconst dL_law_1703 rfl (by decide) (?_ : Ex _ _ 1704 _ _ _ _ _)
        obtain ⟨c697, h⟩ := chk_some h
        refine x_iadd dL_law_1704 c697 (?_ : Ex _ _ 1705 _ _ _ _ _)
        obtain ⟨⟨c698, c699, c700⟩, h⟩ := chk_some h
        refine x_sld c698 c699 c700 dL_law_1705 (?_ : Ex _ _ 1706 _ _ _ _ _)
        obtain ⟨c701, h⟩ := chk_some h
        obtain ⟨v702, m703, g704, h⟩ := cal_some h
        refine cV3 (e_X12_eventKind (d + 42) g704) (contN (by decide) (?_ : Ex _ _ 1709 _ _ _ _ _)) og_X12_eventKind rfl ml_RL_205 12 rfl rfl c701 im_X12_eventKind se_X12_eventKind (Nat.le_of_ble_eq_true rfl) dL_law_1706
        refine x_istore (ls2 := [(7, 0), (21, l1), (22, l2), (300001, l3), (0, l4), (0, v686), (0, v702)]) dL_law_1709 (Nat.le_of_ble_eq_true rfl) rfl (?_ : Ex _ _ 1711 _ _ _ _ _)
        refine x_aload_n dL_law_1711 rfl rfl (Or.inr (by decide)) (?_ : Ex _ _ 1712 _ _ _ _ _)
        obtain ⟨v705, m706, g707, h⟩ := cal_some h
        refine cV0 (e_X12_thrown (d + 46) g707) (contN (by decide) (?_ : Ex _ _ 1715 _ _ _ _ _)) og_X12_thrown rfl ml_RL_124 12 rfl rfl c701 im_X12_thrown se_X12_thrown (Nat.le_of_ble_eq_true rfl) dL_law_1712
        refine x_iload dL_law_1715 rfl (?_ : Ex _ _ 1717 _ _ _ _ _)
        rcases ite_some h with ⟨b708, h⟩ | ⟨b708, h⟩
        · refine x_icmp_eq (tgt := 1722) dL_law_1717 rfl b708 (?_ : Ex _ _ 1722 _ _ _ _ _)
          refine x_iload dL_law_1722 rfl (?_ : Ex _ _ 1724 _ _ _ _ _)
          rcases ite_some h with ⟨b709, h⟩ | ⟨b709, h⟩
          · refine x_if_neN dL_law_1724 (by decide) (fun hh => hh b709) (?_ : Ex _ _ 1727 _ _ _ _ _)
            refine x_aload_n dL_law_1727 rfl rfl (Or.inr (by decide)) (?_ : Ex _ _ 1728 _ _ _ _ _)
            refine x_iconst dL_law_1728 rfl (by decide) (?_ : Ex _ _ 1729 _ _ _ _ _)
            obtain ⟨c711, h⟩ := chk_some h
            refine ld_l_1 c711 (by decide) (by decide) dL_law_1729 (?_ : Ex _ _ 1730 _ _ _ _ _)
            refine x_iload dL_law_1730 rfl (?_ : Ex _ _ 1732 _ _ _ _ _)
            refine x_i2l dL_law_1732 (?_ : Ex _ _ 1733 _ _ _ _ _)
            refine x_lcmp dL_law_1733 (?_ : Ex _ _ 1734 _ _ _ _ _)
            rcases ite_some h with ⟨b712, h⟩ | ⟨b712, h⟩
            · refine x_if_eq (tgt := 1739) dL_law_1734 rfl b712 (?_ : Ex _ _ 1739 _ _ _ _ _)
              refine x_goto (tgt := 2241) dL_law_1739 rfl (?_ : Ex _ _ 2241 _ _ _ _ _)
              obtain ⟨c713, h⟩ := chk_some h
              refine x_iinc (ls2 := [(7, 0), (21, l1), (22, l2), (300001, l3), (0, (l4 + 5)), (0, v686), (0, v702)]) dL_law_2241 rfl c713 rfl (?_ : Ex _ _ 2244 _ _ _ _ _)
              refine x_goto (tgt := 23) dL_law_2244 rfl (?_ : Ex _ _ 23 _ _ _ _ _)
              refine Ex.wk (ls2 := [(7, 0), (21, l1), (22, l2), (300001, l3), (0, (l4 + 5)), (3, 0), (3, 0)]) ⟨Or.inr rfl, Or.inr rfl, Or.inr rfl, Or.inr rfl, Or.inr rfl, Or.inl rfl, Or.inl rfl, trivial⟩ ?_
              exact ih h
            · refine x_if_eqN dL_law_1734 (by decide) b712 (?_ : Ex _ _ 1737 _ _ _ _ _)
              refine x_iconst dL_law_1737 rfl (by decide) (?_ : Ex _ _ 1738 _ _ _ _ _)
              cases h
              exact x_ret dL_law_1738 (by decide : (0 : Int) ≠ 3)
          · refine x_if_ne (tgt := 1739) dL_law_1724 rfl b709 (?_ : Ex _ _ 1739 _ _ _ _ _)
            refine x_goto (tgt := 2241) dL_law_1739 rfl (?_ : Ex _ _ 2241 _ _ _ _ _)
            obtain ⟨c710, h⟩ := chk_some h
            refine x_iinc (ls2 := [(7, 0), (21, l1), (22, l2), (300001, l3), (0, (l4 + 5)), (0, v686), (0, v702)]) dL_law_2241 rfl c710 rfl (?_ : Ex _ _ 2244 _ _ _ _ _)
            refine x_goto (tgt := 23) dL_law_2244 rfl (?_ : Ex _ _ 23 _ _ _ _ _)
            refine Ex.wk (ls2 := [(7, 0), (21, l1), (22, l2), (300001, l3), (0, (l4 + 5)), (3, 0), (3, 0)]) ⟨Or.inr rfl, Or.inr rfl, Or.inr rfl, Or.inr rfl, Or.inr rfl, Or.inl rfl, Or.inl rfl, trivial⟩ ?_
            exact ih h
        · refine x_icmp_eqN dL_law_1717 (by decide) b708 (?_ : Ex _ _ 1720 _ _ _ _ _)
          refine x_iconst dL_law_1720 rfl (by decide) (?_ : Ex _ _ 1721 _ _ _ _ _)
          cases h
          exact x_ret dL_law_1721 (by decide : (0 : Int) ≠ 3)
      rcases ite_some h with ⟨b714, h⟩ | ⟨b714, h⟩
      · refine y_tableAt (j := 25) (off := 1703) (tgt := 1742) b714 dL_law_39 (by decide) (by decide) rfl rfl (?_ : Ex _ _ 1742 _ _ _ _ _)
        refine x_aload_n dL_law_1742 rfl rfl (Or.inr (by decide)) (?_ : Ex _ _ 1743 _ _ _ _ _)
        refine x_aload_n dL_law_1743 rfl rfl (Or.inl rfl) (?_ : Ex _ _ 1744 _ _ _ _ _)
        refine x_iload dL_law_1744 rfl (?_ : Ex _ _ 1746 _ _ _ _ _)
        refine x_iconst dL_law_1746 rfl (by decide) (?_ : Ex _ _ 1747 _ _ _ _ _)
        obtain ⟨c715, h⟩ := chk_some h
        refine x_iadd dL_law_1747 c715 (?_ : Ex _ _ 1748 _ _ _ _ _)
        obtain ⟨⟨c716, c717, c718⟩, h⟩ := chk_some h
        refine x_sld c716 c717 c718 dL_law_1748 (?_ : Ex _ _ 1749 _ _ _ _ _)
        refine x_aload_n dL_law_1749 rfl rfl (Or.inl rfl) (?_ : Ex _ _ 1750 _ _ _ _ _)
        refine x_iload dL_law_1750 rfl (?_ : Ex _ _ 1752 _ _ _ _ _)
        refine x_iconst dL_law_1752 rfl (by decide) (?_ : Ex _ _ 1753 _ _ _ _ _)
        obtain ⟨c719, h⟩ := chk_some h
        refine x_iadd dL_law_1753 c719 (?_ : Ex _ _ 1754 _ _ _ _ _)
        obtain ⟨⟨c720, c721, c722⟩, h⟩ := chk_some h
        refine x_sld c720 c721 c722 dL_law_1754 (?_ : Ex _ _ 1755 _ _ _ _ _)
        refine x_aload_n dL_law_1755 rfl rfl (Or.inl rfl) (?_ : Ex _ _ 1756 _ _ _ _ _)
        refine x_iload dL_law_1756 rfl (?_ : Ex _ _ 1758 _ _ _ _ _)
        refine x_iconst dL_law_1758 rfl (by decide) (?_ : Ex _ _ 1759 _ _ _ _ _)
        obtain ⟨c723, h⟩ := chk_some h
        refine x_iadd dL_law_1759 c723 (?_ : Ex _ _ 1760 _ _ _ _ _)
        obtain ⟨⟨c724, c725, c726⟩, h⟩ := chk_some h
        refine x_sld c724 c725 c726 dL_law_1760 (?_ : Ex _ _ 1761 _ _ _ _ _)
        refine x_aload_n dL_law_1761 rfl rfl (Or.inl rfl) (?_ : Ex _ _ 1762 _ _ _ _ _)
        refine x_iload dL_law_1762 rfl (?_ : Ex _ _ 1764 _ _ _ _ _)
        refine x_iconst dL_law_1764 rfl (by decide) (?_ : Ex _ _ 1765 _ _ _ _ _)
        obtain ⟨c727, h⟩ := chk_some h
        refine x_iadd dL_law_1765 c727 (?_ : Ex _ _ 1766 _ _ _ _ _)
        obtain ⟨⟨c728, c729, c730⟩, h⟩ := chk_some h
        refine x_sld c728 c729 c730 dL_law_1766 (?_ : Ex _ _ 1767 _ _ _ _ _)
        rcases ite_some h with ⟨b731, h⟩ | ⟨b731, h⟩
        · refine x_if_eq (tgt := 1774) dL_law_1767 rfl b731 (?_ : Ex _ _ 1774 _ _ _ _ _)
          refine x_iconst dL_law_1774 rfl (by decide) (?_ : Ex _ _ 1775 _ _ _ _ _)
          exact e_L_law_1775 d ih h
        · refine x_if_eqN dL_law_1767 (by decide) b731 (?_ : Ex _ _ 1770 _ _ _ _ _)
          refine x_iconst dL_law_1770 rfl (by decide) (?_ : Ex _ _ 1771 _ _ _ _ _)
          refine x_goto (tgt := 1775) dL_law_1771 rfl (?_ : Ex _ _ 1775 _ _ _ _ _)
          exact e_L_law_1775 d ih h
      rcases ite_some h with ⟨b732, h⟩ | ⟨b732, h⟩
      · refine y_tableAt (j := 26) (off := 1811) (tgt := 1850) b732 dL_law_39 (by decide) (by decide) rfl rfl (?_ : Ex _ _ 1850 _ _ _ _ _)
        refine x_aload_n dL_law_1850 rfl rfl (Or.inr (by decide)) (?_ : Ex _ _ 1851 _ _ _ _ _)
        refine x_aload_n dL_law_1851 rfl rfl (Or.inl rfl) (?_ : Ex _ _ 1852 _ _ _ _ _)
        refine x_iload dL_law_1852 rfl (?_ : Ex _ _ 1854 _ _ _ _ _)
        refine x_iconst dL_law_1854 rfl (by decide) (?_ : Ex _ _ 1855 _ _ _ _ _)
        obtain ⟨c733, h⟩ := chk_some h
        refine x_iadd dL_law_1855 c733 (?_ : Ex _ _ 1856 _ _ _ _ _)
        obtain ⟨⟨c734, c735, c736⟩, h⟩ := chk_some h
        refine x_sld c734 c735 c736 dL_law_1856 (?_ : Ex _ _ 1857 _ _ _ _ _)
        refine x_aload_n dL_law_1857 rfl rfl (Or.inl rfl) (?_ : Ex _ _ 1858 _ _ _ _ _)
        refine x_iload dL_law_1858 rfl (?_ : Ex _ _ 1860 _ _ _ _ _)
        refine x_iconst dL_law_1860 rfl (by decide) (?_ : Ex _ _ 1861 _ _ _ _ _)
        obtain ⟨c737, h⟩ := chk_some h
        refine x_iadd dL_law_1861 c737 (?_ : Ex _ _ 1862 _ _ _ _ _)
        obtain ⟨⟨c738, c739, c740⟩, h⟩ := chk_some h
        refine x_sld c738 c739 c740 dL_law_1862 (?_ : Ex _ _ 1863 _ _ _ _ _)
        refine x_aload_n dL_law_1863 rfl rfl (Or.inr (by decide)) (?_ : Ex _ _ 1864 _ _ _ _ _)
        obtain ⟨v741, m742, g743, h⟩ := cal_some h
        refine cW4 (e_L_property (d + 43) g743) (by decide) (?_ : Ex _ _ 1867 _ _ _ _ _) og_L_property (List.cons_ne_nil _ _) ml_RL_210 sm_L_property (Nat.le_of_ble_eq_true rfl) dL_law_1864
        refine x_istore (ls2 := [(7, 0), (21, l1), (22, l2), (300001, l3), (0, l4), (0, v741), (3, 0)]) dL_law_1867 (Nat.le_of_ble_eq_true rfl) rfl (?_ : Ex _ _ 1869 _ _ _ _ _)
        refine x_aload_n dL_law_1869 rfl rfl (Or.inr (by decide)) (?_ : Ex _ _ 1870 _ _ _ _ _)
        refine x_aload_n dL_law_1870 rfl rfl (Or.inl rfl) (?_ : Ex _ _ 1871 _ _ _ _ _)
        refine x_iload dL_law_1871 rfl (?_ : Ex _ _ 1873 _ _ _ _ _)
        refine x_iconst dL_law_1873 rfl (by decide) (?_ : Ex _ _ 1874 _ _ _ _ _)
        obtain ⟨c744, h⟩ := chk_some h
        refine x_iadd dL_law_1874 c744 (?_ : Ex _ _ 1875 _ _ _ _ _)
        obtain ⟨⟨c745, c746, c747⟩, h⟩ := chk_some h
        refine x_sld c745 c746 c747 dL_law_1875 (?_ : Ex _ _ 1876 _ _ _ _ _)
        refine x_aload_n dL_law_1876 rfl rfl (Or.inl rfl) (?_ : Ex _ _ 1877 _ _ _ _ _)
        refine x_iload dL_law_1877 rfl (?_ : Ex _ _ 1879 _ _ _ _ _)
        refine x_iconst dL_law_1879 rfl (by decide) (?_ : Ex _ _ 1880 _ _ _ _ _)
        obtain ⟨c748, h⟩ := chk_some h
        refine x_iadd dL_law_1880 c748 (?_ : Ex _ _ 1881 _ _ _ _ _)
        obtain ⟨⟨c749, c750, c751⟩, h⟩ := chk_some h
        refine x_sld c749 c750 c751 dL_law_1881 (?_ : Ex _ _ 1882 _ _ _ _ _)
        obtain ⟨c752, h⟩ := chk_some h
        obtain ⟨v753, m754, g755, h⟩ := cal_some h
        refine cV2 (e_X12_property (d + 44) g755) (contN (by decide) (?_ : Ex _ _ 1885 _ _ _ _ _)) og_X12_property rfl ml_RL_212 12 rfl rfl c752 im_X12_property se_X12_property (Nat.le_of_ble_eq_true rfl) dL_law_1882
        refine x_istore (ls2 := [(7, 0), (21, l1), (22, l2), (300001, l3), (0, l4), (0, v741), (0, v753)]) dL_law_1885 (Nat.le_of_ble_eq_true rfl) rfl (?_ : Ex _ _ 1887 _ _ _ _ _)
        refine x_aload_n dL_law_1887 rfl rfl (Or.inr (by decide)) (?_ : Ex _ _ 1888 _ _ _ _ _)
        obtain ⟨v756, m757, g758, h⟩ := cal_some h
        refine cV0 (e_X12_thrown (d + 46) g758) (contN (by decide) (?_ : Ex _ _ 1891 _ _ _ _ _)) og_X12_thrown rfl ml_RL_124 12 rfl rfl c752 im_X12_thrown se_X12_thrown (Nat.le_of_ble_eq_true rfl) dL_law_1888
        refine x_iload dL_law_1891 rfl (?_ : Ex _ _ 1893 _ _ _ _ _)
        rcases ite_some h with ⟨b759, h⟩ | ⟨b759, h⟩
        · refine x_icmp_eq (tgt := 1898) dL_law_1893 rfl b759 (?_ : Ex _ _ 1898 _ _ _ _ _)
          refine x_iload dL_law_1898 rfl (?_ : Ex _ _ 1900 _ _ _ _ _)
          rcases ite_some h with ⟨b760, h⟩ | ⟨b760, h⟩
          · refine x_if_neN dL_law_1900 (by decide) (fun hh => hh b760) (?_ : Ex _ _ 1903 _ _ _ _ _)
            refine x_aload_n dL_law_1903 rfl rfl (Or.inr (by decide)) (?_ : Ex _ _ 1904 _ _ _ _ _)
            refine x_iconst dL_law_1904 rfl (by decide) (?_ : Ex _ _ 1905 _ _ _ _ _)
            obtain ⟨c762, h⟩ := chk_some h
            refine ld_l_1 c762 (by decide) (by decide) dL_law_1905 (?_ : Ex _ _ 1906 _ _ _ _ _)
            refine x_iload dL_law_1906 rfl (?_ : Ex _ _ 1908 _ _ _ _ _)
            refine x_i2l dL_law_1908 (?_ : Ex _ _ 1909 _ _ _ _ _)
            refine x_lcmp dL_law_1909 (?_ : Ex _ _ 1910 _ _ _ _ _)
            rcases ite_some h with ⟨b763, h⟩ | ⟨b763, h⟩
            · refine x_if_eq (tgt := 1915) dL_law_1910 rfl b763 (?_ : Ex _ _ 1915 _ _ _ _ _)
              refine x_goto (tgt := 2241) dL_law_1915 rfl (?_ : Ex _ _ 2241 _ _ _ _ _)
              obtain ⟨c764, h⟩ := chk_some h
              refine x_iinc (ls2 := [(7, 0), (21, l1), (22, l2), (300001, l3), (0, (l4 + 5)), (0, v741), (0, v753)]) dL_law_2241 rfl c764 rfl (?_ : Ex _ _ 2244 _ _ _ _ _)
              refine x_goto (tgt := 23) dL_law_2244 rfl (?_ : Ex _ _ 23 _ _ _ _ _)
              refine Ex.wk (ls2 := [(7, 0), (21, l1), (22, l2), (300001, l3), (0, (l4 + 5)), (3, 0), (3, 0)]) ⟨Or.inr rfl, Or.inr rfl, Or.inr rfl, Or.inr rfl, Or.inr rfl, Or.inl rfl, Or.inl rfl, trivial⟩ ?_
              exact ih h
            · refine x_if_eqN dL_law_1910 (by decide) b763 (?_ : Ex _ _ 1913 _ _ _ _ _)
              refine x_iconst dL_law_1913 rfl (by decide) (?_ : Ex _ _ 1914 _ _ _ _ _)
              cases h
              exact x_ret dL_law_1914 (by decide : (0 : Int) ≠ 3)
          · refine x_if_ne (tgt := 1915) dL_law_1900 rfl b760 (?_ : Ex _ _ 1915 _ _ _ _ _)
            refine x_goto (tgt := 2241) dL_law_1915 rfl (?_ : Ex _ _ 2241 _ _ _ _ _)
            obtain ⟨c761, h⟩ := chk_some h
            refine x_iinc (ls2 := [(7, 0), (21, l1), (22, l2), (300001, l3), (0, (l4 + 5)), (0, v741), (0, v753)]) dL_law_2241 rfl c761 rfl (?_ : Ex _ _ 2244 _ _ _ _ _)
            refine x_goto (tgt := 23) dL_law_2244 rfl (?_ : Ex _ _ 23 _ _ _ _ _)
            refine Ex.wk (ls2 := [(7, 0), (21, l1), (22, l2), (300001, l3), (0, (l4 + 5)), (3, 0), (3, 0)]) ⟨Or.inr rfl, Or.inr rfl, Or.inr rfl, Or.inr rfl, Or.inr rfl, Or.inl rfl, Or.inl rfl, trivial⟩ ?_
            exact ih h
        · refine x_icmp_eqN dL_law_1893 (by decide) b759 (?_ : Ex _ _ 1896 _ _ _ _ _)
          refine x_iconst dL_law_1896 rfl (by decide) (?_ : Ex _ _ 1897 _ _ _ _ _)
          cases h
          exact x_ret dL_law_1897 (by decide : (0 : Int) ≠ 3)
      rcases ite_some h with ⟨b765, h⟩ | ⟨b765, h⟩
      · refine y_tableAt (j := 27) (off := 1879) (tgt := 1918) b765 dL_law_39 (by decide) (by decide) rfl rfl (?_ : Ex _ _ 1918 _ _ _ _ _)
        refine x_aload_n dL_law_1918 rfl rfl (Or.inr (by decide)) (?_ : Ex _ _ 1919 _ _ _ _ _)
        refine x_aload_n dL_law_1919 rfl rfl (Or.inl rfl) (?_ : Ex _ _ 1920 _ _ _ _ _)
        refine x_iload dL_law_1920 rfl (?_ : Ex _ _ 1922 _ _ _ _ _)
        refine x_iconst dL_law_1922 rfl (by decide) (?_ : Ex _ _ 1923 _ _ _ _ _)
        obtain ⟨c766, h⟩ := chk_some h
        refine x_iadd dL_law_1923 c766 (?_ : Ex _ _ 1924 _ _ _ _ _)
        obtain ⟨⟨c767, c768, c769⟩, h⟩ := chk_some h
        refine x_sld c767 c768 c769 dL_law_1924 (?_ : Ex _ _ 1925 _ _ _ _ _)
        refine x_aload_n dL_law_1925 rfl rfl (Or.inl rfl) (?_ : Ex _ _ 1926 _ _ _ _ _)
        refine x_iload dL_law_1926 rfl (?_ : Ex _ _ 1928 _ _ _ _ _)
        refine x_iconst dL_law_1928 rfl (by decide) (?_ : Ex _ _ 1929 _ _ _ _ _)
        obtain ⟨c770, h⟩ := chk_some h
        refine x_iadd dL_law_1929 c770 (?_ : Ex _ _ 1930 _ _ _ _ _)
        obtain ⟨⟨c771, c772, c773⟩, h⟩ := chk_some h
        refine x_sld c771 c772 c773 dL_law_1930 (?_ : Ex _ _ 1931 _ _ _ _ _)
        refine x_aload_n dL_law_1931 rfl rfl (Or.inl rfl) (?_ : Ex _ _ 1932 _ _ _ _ _)
        refine x_iload dL_law_1932 rfl (?_ : Ex _ _ 1934 _ _ _ _ _)
        refine x_iconst dL_law_1934 rfl (by decide) (?_ : Ex _ _ 1935 _ _ _ _ _)
        obtain ⟨c774, h⟩ := chk_some h
        refine x_iadd dL_law_1935 c774 (?_ : Ex _ _ 1936 _ _ _ _ _)
        obtain ⟨⟨c775, c776, c777⟩, h⟩ := chk_some h
        refine x_sld c775 c776 c777 dL_law_1936 (?_ : Ex _ _ 1937 _ _ _ _ _)
        refine x_aload_n dL_law_1937 rfl rfl (Or.inr (by decide)) (?_ : Ex _ _ 1938 _ _ _ _ _)
        obtain ⟨v778, m779, g780, h⟩ := cal_some h
        refine cW5 (e_L_found (d + 43) g780) (by decide) (?_ : Ex _ _ 1941 _ _ _ _ _) og_L_found (List.cons_ne_nil _ _) ml_RL_213 sm_L_found (Nat.le_of_ble_eq_true rfl) dL_law_1938
        refine x_istore (ls2 := [(7, 0), (21, l1), (22, l2), (300001, l3), (0, l4), (0, v778), (3, 0)]) dL_law_1941 (Nat.le_of_ble_eq_true rfl) rfl (?_ : Ex _ _ 1943 _ _ _ _ _)
        refine x_aload_n dL_law_1943 rfl rfl (Or.inr (by decide)) (?_ : Ex _ _ 1944 _ _ _ _ _)
        refine x_aload_n dL_law_1944 rfl rfl (Or.inl rfl) (?_ : Ex _ _ 1945 _ _ _ _ _)
        refine x_iload dL_law_1945 rfl (?_ : Ex _ _ 1947 _ _ _ _ _)
        refine x_iconst dL_law_1947 rfl (by decide) (?_ : Ex _ _ 1948 _ _ _ _ _)
        obtain ⟨c781, h⟩ := chk_some h
        refine x_iadd dL_law_1948 c781 (?_ : Ex _ _ 1949 _ _ _ _ _)
        obtain ⟨⟨c782, c783, c784⟩, h⟩ := chk_some h
        refine x_sld c782 c783 c784 dL_law_1949 (?_ : Ex _ _ 1950 _ _ _ _ _)
        refine x_aload_n dL_law_1950 rfl rfl (Or.inl rfl) (?_ : Ex _ _ 1951 _ _ _ _ _)
        refine x_iload dL_law_1951 rfl (?_ : Ex _ _ 1953 _ _ _ _ _)
        refine x_iconst dL_law_1953 rfl (by decide) (?_ : Ex _ _ 1954 _ _ _ _ _)
        obtain ⟨c785, h⟩ := chk_some h
        refine x_iadd dL_law_1954 c785 (?_ : Ex _ _ 1955 _ _ _ _ _)
        obtain ⟨⟨c786, c787, c788⟩, h⟩ := chk_some h
        refine x_sld c786 c787 c788 dL_law_1955 (?_ : Ex _ _ 1956 _ _ _ _ _)
        refine x_aload_n dL_law_1956 rfl rfl (Or.inl rfl) (?_ : Ex _ _ 1957 _ _ _ _ _)
        refine x_iload dL_law_1957 rfl (?_ : Ex _ _ 1959 _ _ _ _ _)
        refine x_iconst dL_law_1959 rfl (by decide) (?_ : Ex _ _ 1960 _ _ _ _ _)
        obtain ⟨c789, h⟩ := chk_some h
        refine x_iadd dL_law_1960 c789 (?_ : Ex _ _ 1961 _ _ _ _ _)
        obtain ⟨⟨c790, c791, c792⟩, h⟩ := chk_some h
        refine x_sld c790 c791 c792 dL_law_1961 (?_ : Ex _ _ 1962 _ _ _ _ _)
        obtain ⟨c793, h⟩ := chk_some h
        obtain ⟨v794, m795, g796, h⟩ := cal_some h
        refine cV3 (e_X12_found (d + 44) g796) (contN (by decide) (?_ : Ex _ _ 1965 _ _ _ _ _)) og_X12_found rfl ml_RL_215 12 rfl rfl c793 im_X12_found se_X12_found (Nat.le_of_ble_eq_true rfl) dL_law_1962
        refine x_istore (ls2 := [(7, 0), (21, l1), (22, l2), (300001, l3), (0, l4), (0, v778), (0, v794)]) dL_law_1965 (Nat.le_of_ble_eq_true rfl) rfl (?_ : Ex _ _ 1967 _ _ _ _ _)
        refine x_aload_n dL_law_1967 rfl rfl (Or.inr (by decide)) (?_ : Ex _ _ 1968 _ _ _ _ _)
        obtain ⟨v797, m798, g799, h⟩ := cal_some h
        refine cV0 (e_X12_thrown (d + 46) g799) (contN (by decide) (?_ : Ex _ _ 1971 _ _ _ _ _)) og_X12_thrown rfl ml_RL_124 12 rfl rfl c793 im_X12_thrown se_X12_thrown (Nat.le_of_ble_eq_true rfl) dL_law_1968
        refine x_iload dL_law_1971 rfl (?_ : Ex _ _ 1973 _ _ _ _ _)
        rcases ite_some h with ⟨b800, h⟩ | ⟨b800, h⟩
        · refine x_icmp_eq (tgt := 1978) dL_law_1973 rfl b800 (?_ : Ex _ _ 1978 _ _ _ _ _)
          refine x_iload dL_law_1978 rfl (?_ : Ex _ _ 1980 _ _ _ _ _)
          rcases ite_some h with ⟨b801, h⟩ | ⟨b801, h⟩
          · refine x_if_neN dL_law_1980 (by decide) (fun hh => hh b801) (?_ : Ex _ _ 1983 _ _ _ _ _)
            refine x_aload_n dL_law_1983 rfl rfl (Or.inr (by decide)) (?_ : Ex _ _ 1984 _ _ _ _ _)
            refine x_iconst dL_law_1984 rfl (by decide) (?_ : Ex _ _ 1985 _ _ _ _ _)
            obtain ⟨c803, h⟩ := chk_some h
            refine ld_l_1 c803 (by decide) (by decide) dL_law_1985 (?_ : Ex _ _ 1986 _ _ _ _ _)
            refine x_iload dL_law_1986 rfl (?_ : Ex _ _ 1988 _ _ _ _ _)
            refine x_i2l dL_law_1988 (?_ : Ex _ _ 1989 _ _ _ _ _)
            refine x_lcmp dL_law_1989 (?_ : Ex _ _ 1990 _ _ _ _ _)
            rcases ite_some h with ⟨b804, h⟩ | ⟨b804, h⟩
            · refine x_if_eq (tgt := 1995) dL_law_1990 rfl b804 (?_ : Ex _ _ 1995 _ _ _ _ _)
              refine x_goto (tgt := 2241) dL_law_1995 rfl (?_ : Ex _ _ 2241 _ _ _ _ _)
              obtain ⟨c805, h⟩ := chk_some h
              refine x_iinc (ls2 := [(7, 0), (21, l1), (22, l2), (300001, l3), (0, (l4 + 5)), (0, v778), (0, v794)]) dL_law_2241 rfl c805 rfl (?_ : Ex _ _ 2244 _ _ _ _ _)
              refine x_goto (tgt := 23) dL_law_2244 rfl (?_ : Ex _ _ 23 _ _ _ _ _)
              refine Ex.wk (ls2 := [(7, 0), (21, l1), (22, l2), (300001, l3), (0, (l4 + 5)), (3, 0), (3, 0)]) ⟨Or.inr rfl, Or.inr rfl, Or.inr rfl, Or.inr rfl, Or.inr rfl, Or.inl rfl, Or.inl rfl, trivial⟩ ?_
              exact ih h
            · refine x_if_eqN dL_law_1990 (by decide) b804 (?_ : Ex _ _ 1993 _ _ _ _ _)
              refine x_iconst dL_law_1993 rfl (by decide) (?_ : Ex _ _ 1994 _ _ _ _ _)
              cases h
              exact x_ret dL_law_1994 (by decide : (0 : Int) ≠ 3)
          · refine x_if_ne (tgt := 1995) dL_law_1980 rfl b801 (?_ : Ex _ _ 1995 _ _ _ _ _)
            refine x_goto (tgt := 2241) dL_law_1995 rfl (?_ : Ex _ _ 2241 _ _ _ _ _)
            obtain ⟨c802, h⟩ := chk_some h
            refine x_iinc (ls2 := [(7, 0), (21, l1), (22, l2), (300001, l3), (0, (l4 + 5)), (0, v778), (0, v794)]) dL_law_2241 rfl c802 rfl (?_ : Ex _ _ 2244 _ _ _ _ _)
            refine x_goto (tgt := 23) dL_law_2244 rfl (?_ : Ex _ _ 23 _ _ _ _ _)
            refine Ex.wk (ls2 := [(7, 0), (21, l1), (22, l2), (300001, l3), (0, (l4 + 5)), (3, 0), (3, 0)]) ⟨Or.inr rfl, Or.inr rfl, Or.inr rfl, Or.inr rfl, Or.inr rfl, Or.inl rfl, Or.inl rfl, trivial⟩ ?_
            exact ih h
        · refine x_icmp_eqN dL_law_1973 (by decide) b800 (?_ : Ex _ _ 1976 _ _ _ _ _)
          refine x_iconst dL_law_1976 rfl (by decide) (?_ : Ex _ _ 1977 _ _ _ _ _)
          cases h
          exact x_ret dL_law_1977 (by decide : (0 : Int) ≠ 3)
      rcases ite_some h with ⟨b806, h⟩ | ⟨b806, h⟩
      · refine y_tableAt (j := 28) (off := 1959) (tgt := 1998) b806 dL_law_39 (by decide) (by decide) rfl rfl (?_ : Ex _ _ 1998 _ _ _ _ _)
        refine x_aload_n dL_law_1998 rfl rfl (Or.inr (by decide)) (?_ : Ex _ _ 1999 _ _ _ _ _)
        refine x_aload_n dL_law_1999 rfl rfl (Or.inl rfl) (?_ : Ex _ _ 2000 _ _ _ _ _)
        refine x_iload dL_law_2000 rfl (?_ : Ex _ _ 2002 _ _ _ _ _)
        refine x_iconst dL_law_2002 rfl (by decide) (?_ : Ex _ _ 2003 _ _ _ _ _)
        obtain ⟨c807, h⟩ := chk_some h
        refine x_iadd dL_law_2003 c807 (?_ : Ex _ _ 2004 _ _ _ _ _)
        obtain ⟨⟨c808, c809, c810⟩, h⟩ := chk_some h
        refine x_sld c808 c809 c810 dL_law_2004 (?_ : Ex _ _ 2005 _ _ _ _ _)
        refine x_aload_n dL_law_2005 rfl rfl (Or.inr (by decide)) (?_ : Ex _ _ 2006 _ _ _ _ _)
        obtain ⟨v811, m812, g813, h⟩ := cal_some h
        refine cW3 (e_L_isDue (d + 43) g813) (by decide) (?_ : Ex _ _ 2009 _ _ _ _ _) og_L_isDue (List.cons_ne_nil _ _) ml_RL_216 sm_L_isDue (Nat.le_of_ble_eq_true rfl) dL_law_2006
        refine x_istore (ls2 := [(7, 0), (21, l1), (22, l2), (300001, l3), (0, l4), (0, v811), (3, 0)]) dL_law_2009 (Nat.le_of_ble_eq_true rfl) rfl (?_ : Ex _ _ 2011 _ _ _ _ _)
        refine x_aload_n dL_law_2011 rfl rfl (Or.inr (by decide)) (?_ : Ex _ _ 2012 _ _ _ _ _)
        refine x_aload_n dL_law_2012 rfl rfl (Or.inl rfl) (?_ : Ex _ _ 2013 _ _ _ _ _)
        refine x_iload dL_law_2013 rfl (?_ : Ex _ _ 2015 _ _ _ _ _)
        refine x_iconst dL_law_2015 rfl (by decide) (?_ : Ex _ _ 2016 _ _ _ _ _)
        obtain ⟨c814, h⟩ := chk_some h
        refine x_iadd dL_law_2016 c814 (?_ : Ex _ _ 2017 _ _ _ _ _)
        obtain ⟨⟨c815, c816, c817⟩, h⟩ := chk_some h
        refine x_sld c815 c816 c817 dL_law_2017 (?_ : Ex _ _ 2018 _ _ _ _ _)
        obtain ⟨c818, h⟩ := chk_some h
        obtain ⟨v819, m820, g821, h⟩ := cal_some h
        refine cV1 (e_X12_isDue (d + 43) g821) (contN (by decide) (?_ : Ex _ _ 2021 _ _ _ _ _)) og_X12_isDue rfl ml_RL_218 12 rfl rfl c818 im_X12_isDue se_X12_isDue (Nat.le_of_ble_eq_true rfl) dL_law_2018
        refine x_istore (ls2 := [(7, 0), (21, l1), (22, l2), (300001, l3), (0, l4), (0, v811), (0, v819)]) dL_law_2021 (Nat.le_of_ble_eq_true rfl) rfl (?_ : Ex _ _ 2023 _ _ _ _ _)
        refine x_aload_n dL_law_2023 rfl rfl (Or.inr (by decide)) (?_ : Ex _ _ 2024 _ _ _ _ _)
        obtain ⟨v822, m823, g824, h⟩ := cal_some h
        refine cV0 (e_X12_thrown (d + 46) g824) (contN (by decide) (?_ : Ex _ _ 2027 _ _ _ _ _)) og_X12_thrown rfl ml_RL_124 12 rfl rfl c818 im_X12_thrown se_X12_thrown (Nat.le_of_ble_eq_true rfl) dL_law_2024
        refine x_iload dL_law_2027 rfl (?_ : Ex _ _ 2029 _ _ _ _ _)
        rcases ite_some h with ⟨b825, h⟩ | ⟨b825, h⟩
        · refine x_icmp_eq (tgt := 2034) dL_law_2029 rfl b825 (?_ : Ex _ _ 2034 _ _ _ _ _)
          refine x_iload dL_law_2034 rfl (?_ : Ex _ _ 2036 _ _ _ _ _)
          rcases ite_some h with ⟨b826, h⟩ | ⟨b826, h⟩
          · refine x_if_neN dL_law_2036 (by decide) (fun hh => hh b826) (?_ : Ex _ _ 2039 _ _ _ _ _)
            refine x_aload_n dL_law_2039 rfl rfl (Or.inr (by decide)) (?_ : Ex _ _ 2040 _ _ _ _ _)
            refine x_iconst dL_law_2040 rfl (by decide) (?_ : Ex _ _ 2041 _ _ _ _ _)
            obtain ⟨c828, h⟩ := chk_some h
            refine ld_l_1 c828 (by decide) (by decide) dL_law_2041 (?_ : Ex _ _ 2042 _ _ _ _ _)
            refine x_iload dL_law_2042 rfl (?_ : Ex _ _ 2044 _ _ _ _ _)
            rcases ite_some h with ⟨b829, h⟩ | ⟨b829, h⟩
            · refine x_if_eq (tgt := 2051) dL_law_2044 rfl b829 (?_ : Ex _ _ 2051 _ _ _ _ _)
              refine x_lconst dL_law_2051 kl_0 (by decide) (?_ : Ex _ _ 2052 _ _ _ _ _)
              refine Ex.wk (ls2 := [(7, 0), (21, l1), (22, l2), (300001, l3), (0, l4), (3, 0), (3, 0)]) ⟨Or.inr rfl, Or.inr rfl, Or.inr rfl, Or.inr rfl, Or.inr rfl, Or.inl rfl, Or.inl rfl, trivial⟩ ?_
              exact e_L_law_2052 d ih h
            · refine x_if_eqN dL_law_2044 (by decide) b829 (?_ : Ex _ _ 2047 _ _ _ _ _)
              refine x_lconst dL_law_2047 kl_1 (by decide) (?_ : Ex _ _ 2048 _ _ _ _ _)
              refine x_goto (tgt := 2052) dL_law_2048 rfl (?_ : Ex _ _ 2052 _ _ _ _ _)
              refine Ex.wk (ls2 := [(7, 0), (21, l1), (22, l2), (300001, l3), (0, l4), (3, 0), (3, 0)]) ⟨Or.inr rfl, Or.inr rfl, Or.inr rfl, Or.inr rfl, Or.inr rfl, Or.inl rfl, Or.inl rfl, trivial⟩ ?_
              exact e_L_law_2052 d ih h
          · refine x_if_ne (tgt := 2058) dL_law_2036 rfl b826 (?_ : Ex _ _ 2058 _ _ _ _ _)
            refine x_goto (tgt := 2241) dL_law_2058 rfl (?_ : Ex _ _ 2241 _ _ _ _ _)
            obtain ⟨c827, h⟩ := chk_some h
            refine x_iinc (ls2 := [(7, 0), (21, l1), (22, l2), (300001, l3), (0, (l4 + 5)), (0, v811), (0, v819)]) dL_law_2241 rfl c827 rfl (?_ : Ex _ _ 2244 _ _ _ _ _)
            refine x_goto (tgt := 23) dL_law_2244 rfl (?_ : Ex _ _ 23 _ _ _ _ _)
            refine Ex.wk (ls2 := [(7, 0), (21, l1), (22, l2), (300001, l3), (0, (l4 + 5)), (3, 0), (3, 0)]) ⟨Or.inr rfl, Or.inr rfl, Or.inr rfl, Or.inr rfl, Or.inr rfl, Or.inl rfl, Or.inl rfl, trivial⟩ ?_
            exact ih h
        · refine x_icmp_eqN dL_law_2029 (by decide) b825 (?_ : Ex _ _ 2032 _ _ _ _ _)
          refine x_iconst dL_law_2032 rfl (by decide) (?_ : Ex _ _ 2033 _ _ _ _ _)
          cases h
          exact x_ret dL_law_2033 (by decide : (0 : Int) ≠ 3)
      rcases ite_some h with ⟨b830, h⟩ | ⟨b830, h⟩
      · refine y_tableAt (j := 29) (off := 2022) (tgt := 2061) b830 dL_law_39 (by decide) (by decide) rfl rfl (?_ : Ex _ _ 2061 _ _ _ _ _)
        refine x_aload_n dL_law_2061 rfl rfl (Or.inr (by decide)) (?_ : Ex _ _ 2062 _ _ _ _ _)
        refine x_aload_n dL_law_2062 rfl rfl (Or.inl rfl) (?_ : Ex _ _ 2063 _ _ _ _ _)
        refine x_iload dL_law_2063 rfl (?_ : Ex _ _ 2065 _ _ _ _ _)
        refine x_iconst dL_law_2065 rfl (by decide) (?_ : Ex _ _ 2066 _ _ _ _ _)
        obtain ⟨c831, h⟩ := chk_some h
        refine x_iadd dL_law_2066 c831 (?_ : Ex _ _ 2067 _ _ _ _ _)
        obtain ⟨⟨c832, c833, c834⟩, h⟩ := chk_some h
        refine x_sld c832 c833 c834 dL_law_2067 (?_ : Ex _ _ 2068 _ _ _ _ _)
        refine x_aload_n dL_law_2068 rfl rfl (Or.inr (by decide)) (?_ : Ex _ _ 2069 _ _ _ _ _)
        obtain ⟨v835, m836, g837, h⟩ := cal_some h
        refine cW3 (e_L_register (d + 43) g837) (by decide) (?_ : Ex _ _ 2072 _ _ _ _ _) og_L_register (List.cons_ne_nil _ _) ml_RL_219 sm_L_register (Nat.le_of_ble_eq_true rfl) dL_law_2069
        refine x_istore (ls2 := [(7, 0), (21, l1), (22, l2), (300001, l3), (0, l4), (0, v835), (3, 0)]) dL_law_2072 (Nat.le_of_ble_eq_true rfl) rfl (?_ : Ex _ _ 2074 _ _ _ _ _)
        refine x_aload_n dL_law_2074 rfl rfl (Or.inr (by decide)) (?_ : Ex _ _ 2075 _ _ _ _ _)
        refine x_aload_n dL_law_2075 rfl rfl (Or.inl rfl) (?_ : Ex _ _ 2076 _ _ _ _ _)
        refine x_iload dL_law_2076 rfl (?_ : Ex _ _ 2078 _ _ _ _ _)
        refine x_iconst dL_law_2078 rfl (by decide) (?_ : Ex _ _ 2079 _ _ _ _ _)
        obtain ⟨c838, h⟩ := chk_some h
        refine x_iadd dL_law_2079 c838 (?_ : Ex _ _ 2080 _ _ _ _ _)
        obtain ⟨⟨c839, c840, c841⟩, h⟩ := chk_some h
        refine x_sld c839 c840 c841 dL_law_2080 (?_ : Ex _ _ 2081 _ _ _ _ _)
        obtain ⟨c842, h⟩ := chk_some h
        obtain ⟨v843, m844, g845, h⟩ := cal_some h
        refine cV1 (e_X12_register (d + 44) g845) (contN (by decide) (?_ : Ex _ _ 2084 _ _ _ _ _)) og_X12_register rfl ml_RL_221 12 rfl rfl c842 im_X12_register se_X12_register (Nat.le_of_ble_eq_true rfl) dL_law_2081
        refine x_istore (ls2 := [(7, 0), (21, l1), (22, l2), (300001, l3), (0, l4), (0, v835), (0, v843)]) dL_law_2084 (Nat.le_of_ble_eq_true rfl) rfl (?_ : Ex _ _ 2086 _ _ _ _ _)
        refine x_aload_n dL_law_2086 rfl rfl (Or.inr (by decide)) (?_ : Ex _ _ 2087 _ _ _ _ _)
        obtain ⟨v846, m847, g848, h⟩ := cal_some h
        refine cV0 (e_X12_thrown (d + 46) g848) (contN (by decide) (?_ : Ex _ _ 2090 _ _ _ _ _)) og_X12_thrown rfl ml_RL_124 12 rfl rfl c842 im_X12_thrown se_X12_thrown (Nat.le_of_ble_eq_true rfl) dL_law_2087
        refine x_iload dL_law_2090 rfl (?_ : Ex _ _ 2092 _ _ _ _ _)
        rcases ite_some h with ⟨b849, h⟩ | ⟨b849, h⟩
        · refine x_icmp_eq (tgt := 2097) dL_law_2092 rfl b849 (?_ : Ex _ _ 2097 _ _ _ _ _)
          refine x_iload dL_law_2097 rfl (?_ : Ex _ _ 2099 _ _ _ _ _)
          rcases ite_some h with ⟨b850, h⟩ | ⟨b850, h⟩
          · refine x_if_neN dL_law_2099 (by decide) (fun hh => hh b850) (?_ : Ex _ _ 2102 _ _ _ _ _)
            refine x_aload_n dL_law_2102 rfl rfl (Or.inr (by decide)) (?_ : Ex _ _ 2103 _ _ _ _ _)
            refine x_iconst dL_law_2103 rfl (by decide) (?_ : Ex _ _ 2104 _ _ _ _ _)
            obtain ⟨c852, h⟩ := chk_some h
            refine ld_l_1 c852 (by decide) (by decide) dL_law_2104 (?_ : Ex _ _ 2105 _ _ _ _ _)
            refine x_iload dL_law_2105 rfl (?_ : Ex _ _ 2107 _ _ _ _ _)
            refine x_i2l dL_law_2107 (?_ : Ex _ _ 2108 _ _ _ _ _)
            refine x_lcmp dL_law_2108 (?_ : Ex _ _ 2109 _ _ _ _ _)
            rcases ite_some h with ⟨b853, h⟩ | ⟨b853, h⟩
            · refine x_if_eq (tgt := 2114) dL_law_2109 rfl b853 (?_ : Ex _ _ 2114 _ _ _ _ _)
              refine x_goto (tgt := 2241) dL_law_2114 rfl (?_ : Ex _ _ 2241 _ _ _ _ _)
              obtain ⟨c854, h⟩ := chk_some h
              refine x_iinc (ls2 := [(7, 0), (21, l1), (22, l2), (300001, l3), (0, (l4 + 5)), (0, v835), (0, v843)]) dL_law_2241 rfl c854 rfl (?_ : Ex _ _ 2244 _ _ _ _ _)
              refine x_goto (tgt := 23) dL_law_2244 rfl (?_ : Ex _ _ 23 _ _ _ _ _)
              refine Ex.wk (ls2 := [(7, 0), (21, l1), (22, l2), (300001, l3), (0, (l4 + 5)), (3, 0), (3, 0)]) ⟨Or.inr rfl, Or.inr rfl, Or.inr rfl, Or.inr rfl, Or.inr rfl, Or.inl rfl, Or.inl rfl, trivial⟩ ?_
              exact ih h
            · refine x_if_eqN dL_law_2109 (by decide) b853 (?_ : Ex _ _ 2112 _ _ _ _ _)
              refine x_iconst dL_law_2112 rfl (by decide) (?_ : Ex _ _ 2113 _ _ _ _ _)
              cases h
              exact x_ret dL_law_2113 (by decide : (0 : Int) ≠ 3)
          · refine x_if_ne (tgt := 2114) dL_law_2099 rfl b850 (?_ : Ex _ _ 2114 _ _ _ _ _)
            refine x_goto (tgt := 2241) dL_law_2114 rfl (?_ : Ex _ _ 2241 _ _ _ _ _)
            obtain ⟨c851, h⟩ := chk_some h
            refine x_iinc (ls2 := [(7, 0), (21, l1), (22, l2), (300001, l3), (0, (l4 + 5)), (0, v835), (0, v843)]) dL_law_2241 rfl c851 rfl (?_ : Ex _ _ 2244 _ _ _ _ _)
            refine x_goto (tgt := 23) dL_law_2244 rfl (?_ : Ex _ _ 23 _ _ _ _ _)
            refine Ex.wk (ls2 := [(7, 0), (21, l1), (22, l2), (300001, l3), (0, (l4 + 5)), (3, 0), (3, 0)]) ⟨Or.inr rfl, Or.inr rfl, Or.inr rfl, Or.inr rfl, Or.inr rfl, Or.inl rfl, Or.inl rfl, trivial⟩ ?_
            exact ih h
        · refine x_icmp_eqN dL_law_2092 (by decide) b849 (?_ : Ex _ _ 2095 _ _ _ _ _)
          refine x_iconst dL_law_2095 rfl (by decide) (?_ : Ex _ _ 2096 _ _ _ _ _)
          cases h
          exact x_ret dL_law_2096 (by decide : (0 : Int) ≠ 3)
      rcases ite_some h with ⟨b855, h⟩ | ⟨b855, h⟩
      · refine y_tableAt (j := 30) (off := 2078) (tgt := 2117) b855 dL_law_39 (by decide) (by decide) rfl rfl (?_ : Ex _ _ 2117 _ _ _ _ _)
        refine x_aload_n dL_law_2117 rfl rfl (Or.inr (by decide)) (?_ : Ex _ _ 2118 _ _ _ _ _)
        refine x_aload_n dL_law_2118 rfl rfl (Or.inl rfl) (?_ : Ex _ _ 2119 _ _ _ _ _)
        refine x_iload dL_law_2119 rfl (?_ : Ex _ _ 2121 _ _ _ _ _)
        refine x_iconst dL_law_2121 rfl (by decide) (?_ : Ex _ _ 2122 _ _ _ _ _)
        obtain ⟨c856, h⟩ := chk_some h
        refine x_iadd dL_law_2122 c856 (?_ : Ex _ _ 2123 _ _ _ _ _)
        obtain ⟨⟨c857, c858, c859⟩, h⟩ := chk_some h
        refine x_sld c857 c858 c859 dL_law_2123 (?_ : Ex _ _ 2124 _ _ _ _ _)
        refine x_aload_n dL_law_2124 rfl rfl (Or.inr (by decide)) (?_ : Ex _ _ 2125 _ _ _ _ _)
        obtain ⟨v860, m861, g862, h⟩ := cal_some h
        refine cW3 (e_L_place (d + 43) g862) (by decide) (?_ : Ex _ _ 2128 _ _ _ _ _) og_L_place (List.cons_ne_nil _ _) ml_RL_222 sm_L_place (Nat.le_of_ble_eq_true rfl) dL_law_2125
        refine x_istore (ls2 := [(7, 0), (21, l1), (22, l2), (300001, l3), (0, l4), (0, v860), (3, 0)]) dL_law_2128 (Nat.le_of_ble_eq_true rfl) rfl (?_ : Ex _ _ 2130 _ _ _ _ _)
        refine x_aload_n dL_law_2130 rfl rfl (Or.inr (by decide)) (?_ : Ex _ _ 2131 _ _ _ _ _)
        refine x_aload_n dL_law_2131 rfl rfl (Or.inl rfl) (?_ : Ex _ _ 2132 _ _ _ _ _)
        refine x_iload dL_law_2132 rfl (?_ : Ex _ _ 2134 _ _ _ _ _)
        refine x_iconst dL_law_2134 rfl (by decide) (?_ : Ex _ _ 2135 _ _ _ _ _)
        obtain ⟨c863, h⟩ := chk_some h
        refine x_iadd dL_law_2135 c863 (?_ : Ex _ _ 2136 _ _ _ _ _)
        obtain ⟨⟨c864, c865, c866⟩, h⟩ := chk_some h
        refine x_sld c864 c865 c866 dL_law_2136 (?_ : Ex _ _ 2137 _ _ _ _ _)
        obtain ⟨c867, h⟩ := chk_some h
        obtain ⟨v868, m869, g870, h⟩ := cal_some h
        refine cV1 (e_X12_place (d + 44) g870) (contN (by decide) (?_ : Ex _ _ 2140 _ _ _ _ _)) og_X12_place rfl ml_RL_224 12 rfl rfl c867 im_X12_place se_X12_place (Nat.le_of_ble_eq_true rfl) dL_law_2137
        refine x_istore (ls2 := [(7, 0), (21, l1), (22, l2), (300001, l3), (0, l4), (0, v860), (0, v868)]) dL_law_2140 (Nat.le_of_ble_eq_true rfl) rfl (?_ : Ex _ _ 2142 _ _ _ _ _)
        refine x_aload_n dL_law_2142 rfl rfl (Or.inr (by decide)) (?_ : Ex _ _ 2143 _ _ _ _ _)
        obtain ⟨v871, m872, g873, h⟩ := cal_some h
        refine cV0 (e_X12_thrown (d + 46) g873) (contN (by decide) (?_ : Ex _ _ 2146 _ _ _ _ _)) og_X12_thrown rfl ml_RL_124 12 rfl rfl c867 im_X12_thrown se_X12_thrown (Nat.le_of_ble_eq_true rfl) dL_law_2143
        refine x_iload dL_law_2146 rfl (?_ : Ex _ _ 2148 _ _ _ _ _)
        rcases ite_some h with ⟨b874, h⟩ | ⟨b874, h⟩
        · refine x_icmp_eq (tgt := 2153) dL_law_2148 rfl b874 (?_ : Ex _ _ 2153 _ _ _ _ _)
          refine x_iload dL_law_2153 rfl (?_ : Ex _ _ 2155 _ _ _ _ _)
          rcases ite_some h with ⟨b875, h⟩ | ⟨b875, h⟩
          · refine x_if_neN dL_law_2155 (by decide) (fun hh => hh b875) (?_ : Ex _ _ 2158 _ _ _ _ _)
            refine x_aload_n dL_law_2158 rfl rfl (Or.inr (by decide)) (?_ : Ex _ _ 2159 _ _ _ _ _)
            refine x_iconst dL_law_2159 rfl (by decide) (?_ : Ex _ _ 2160 _ _ _ _ _)
            obtain ⟨c877, h⟩ := chk_some h
            refine ld_l_1 c877 (by decide) (by decide) dL_law_2160 (?_ : Ex _ _ 2161 _ _ _ _ _)
            refine x_iload dL_law_2161 rfl (?_ : Ex _ _ 2163 _ _ _ _ _)
            refine x_i2l dL_law_2163 (?_ : Ex _ _ 2164 _ _ _ _ _)
            refine x_lcmp dL_law_2164 (?_ : Ex _ _ 2165 _ _ _ _ _)
            rcases ite_some h with ⟨b878, h⟩ | ⟨b878, h⟩
            · refine x_if_eq (tgt := 2170) dL_law_2165 rfl b878 (?_ : Ex _ _ 2170 _ _ _ _ _)
              refine x_goto (tgt := 2241) dL_law_2170 rfl (?_ : Ex _ _ 2241 _ _ _ _ _)
              obtain ⟨c879, h⟩ := chk_some h
              refine x_iinc (ls2 := [(7, 0), (21, l1), (22, l2), (300001, l3), (0, (l4 + 5)), (0, v860), (0, v868)]) dL_law_2241 rfl c879 rfl (?_ : Ex _ _ 2244 _ _ _ _ _)
              refine x_goto (tgt := 23) dL_law_2244 rfl (?_ : Ex _ _ 23 _ _ _ _ _)
              refine Ex.wk (ls2 := [(7, 0), (21, l1), (22, l2), (300001, l3), (0, (l4 + 5)), (3, 0), (3, 0)]) ⟨Or.inr rfl, Or.inr rfl, Or.inr rfl, Or.inr rfl, Or.inr rfl, Or.inl rfl, Or.inl rfl, trivial⟩ ?_
              exact ih h
            · refine x_if_eqN dL_law_2165 (by decide) b878 (?_ : Ex _ _ 2168 _ _ _ _ _)
              refine x_iconst dL_law_2168 rfl (by decide) (?_ : Ex _ _ 2169 _ _ _ _ _)
              cases h
              exact x_ret dL_law_2169 (by decide : (0 : Int) ≠ 3)
          · refine x_if_ne (tgt := 2170) dL_law_2155 rfl b875 (?_ : Ex _ _ 2170 _ _ _ _ _)
            refine x_goto (tgt := 2241) dL_law_2170 rfl (?_ : Ex _ _ 2241 _ _ _ _ _)
            obtain ⟨c876, h⟩ := chk_some h
            refine x_iinc (ls2 := [(7, 0), (21, l1), (22, l2), (300001, l3), (0, (l4 + 5)), (0, v860), (0, v868)]) dL_law_2241 rfl c876 rfl (?_ : Ex _ _ 2244 _ _ _ _ _)
            refine x_goto (tgt := 23) dL_law_2244 rfl (?_ : Ex _ _ 23 _ _ _ _ _)
            refine Ex.wk (ls2 := [(7, 0), (21, l1), (22, l2), (300001, l3), (0, (l4 + 5)), (3, 0), (3, 0)]) ⟨Or.inr rfl, Or.inr rfl, Or.inr rfl, Or.inr rfl, Or.inr rfl, Or.inl rfl, Or.inl rfl, trivial⟩ ?_
            exact ih h
        · refine x_icmp_eqN dL_law_2148 (by decide) b874 (?_ : Ex _ _ 2151 _ _ _ _ _)
          refine x_iconst dL_law_2151 rfl (by decide) (?_ : Ex _ _ 2152 _ _ _ _ _)
          cases h
          exact x_ret dL_law_2152 (by decide : (0 : Int) ≠ 3)
      rcases ite_some h with ⟨b880, h⟩ | ⟨b880, h⟩
      · refine y_tableAt (j := 31) (off := 2134) (tgt := 2173) b880 dL_law_39 (by decide) (by decide) rfl rfl (?_ : Ex _ _ 2173 _ _ _ _ _)
        refine x_aload_n dL_law_2173 rfl rfl (Or.inr (by decide)) (?_ : Ex _ _ 2174 _ _ _ _ _)
        refine x_aload_n dL_law_2174 rfl rfl (Or.inl rfl) (?_ : Ex _ _ 2175 _ _ _ _ _)
        refine x_iload dL_law_2175 rfl (?_ : Ex _ _ 2177 _ _ _ _ _)
        refine x_iconst dL_law_2177 rfl (by decide) (?_ : Ex _ _ 2178 _ _ _ _ _)
        obtain ⟨c881, h⟩ := chk_some h
        refine x_iadd dL_law_2178 c881 (?_ : Ex _ _ 2179 _ _ _ _ _)
        obtain ⟨⟨c882, c883, c884⟩, h⟩ := chk_some h
        refine x_sld c882 c883 c884 dL_law_2179 (?_ : Ex _ _ 2180 _ _ _ _ _)
        refine x_aload_n dL_law_2180 rfl rfl (Or.inl rfl) (?_ : Ex _ _ 2181 _ _ _ _ _)
        refine x_iload dL_law_2181 rfl (?_ : Ex _ _ 2183 _ _ _ _ _)
        refine x_iconst dL_law_2183 rfl (by decide) (?_ : Ex _ _ 2184 _ _ _ _ _)
        obtain ⟨c885, h⟩ := chk_some h
        refine x_iadd dL_law_2184 c885 (?_ : Ex _ _ 2185 _ _ _ _ _)
        obtain ⟨⟨c886, c887, c888⟩, h⟩ := chk_some h
        refine x_sld c886 c887 c888 dL_law_2185 (?_ : Ex _ _ 2186 _ _ _ _ _)
        refine x_aload_n dL_law_2186 rfl rfl (Or.inr (by decide)) (?_ : Ex _ _ 2187 _ _ _ _ _)
        obtain ⟨v889, m890, g891, h⟩ := cal_some h
        refine cW4 (e_L_registerAnew (d + 39) g891) (by decide) (?_ : Ex _ _ 2190 _ _ _ _ _) og_L_registerAnew (List.cons_ne_nil _ _) ml_RL_225 sm_L_registerAnew (Nat.le_of_ble_eq_true rfl) dL_law_2187
        refine x_istore (ls2 := [(7, 0), (21, l1), (22, l2), (300001, l3), (0, l4), (0, v889), (3, 0)]) dL_law_2190 (Nat.le_of_ble_eq_true rfl) rfl (?_ : Ex _ _ 2192 _ _ _ _ _)
        refine x_aload_n dL_law_2192 rfl rfl (Or.inr (by decide)) (?_ : Ex _ _ 2193 _ _ _ _ _)
        refine x_aload_n dL_law_2193 rfl rfl (Or.inl rfl) (?_ : Ex _ _ 2194 _ _ _ _ _)
        refine x_iload dL_law_2194 rfl (?_ : Ex _ _ 2196 _ _ _ _ _)
        refine x_iconst dL_law_2196 rfl (by decide) (?_ : Ex _ _ 2197 _ _ _ _ _)
        obtain ⟨c892, h⟩ := chk_some h
        refine x_iadd dL_law_2197 c892 (?_ : Ex _ _ 2198 _ _ _ _ _)
        obtain ⟨⟨c893, c894, c895⟩, h⟩ := chk_some h
        refine x_sld c893 c894 c895 dL_law_2198 (?_ : Ex _ _ 2199 _ _ _ _ _)
        refine x_aload_n dL_law_2199 rfl rfl (Or.inl rfl) (?_ : Ex _ _ 2200 _ _ _ _ _)
        refine x_iload dL_law_2200 rfl (?_ : Ex _ _ 2202 _ _ _ _ _)
        refine x_iconst dL_law_2202 rfl (by decide) (?_ : Ex _ _ 2203 _ _ _ _ _)
        obtain ⟨c896, h⟩ := chk_some h
        refine x_iadd dL_law_2203 c896 (?_ : Ex _ _ 2204 _ _ _ _ _)
        obtain ⟨⟨c897, c898, c899⟩, h⟩ := chk_some h
        refine x_sld c897 c898 c899 dL_law_2204 (?_ : Ex _ _ 2205 _ _ _ _ _)
        obtain ⟨c900, h⟩ := chk_some h
        obtain ⟨v901, m902, g903, h⟩ := cal_some h
        refine cV2 (e_X12_registerAnew (d + 35) g903) (contN (by decide) (?_ : Ex _ _ 2208 _ _ _ _ _)) og_X12_registerAnew rfl ml_RL_227 12 rfl rfl c900 im_X12_registerAnew se_X12_registerAnew (Nat.le_of_ble_eq_true rfl) dL_law_2205
        refine x_istore (ls2 := [(7, 0), (21, l1), (22, l2), (300001, l3), (0, l4), (0, v889), (0, v901)]) dL_law_2208 (Nat.le_of_ble_eq_true rfl) rfl (?_ : Ex _ _ 2210 _ _ _ _ _)
        refine x_aload_n dL_law_2210 rfl rfl (Or.inr (by decide)) (?_ : Ex _ _ 2211 _ _ _ _ _)
        obtain ⟨v904, m905, g906, h⟩ := cal_some h
        refine cV0 (e_X12_thrown (d + 46) g906) (contN (by decide) (?_ : Ex _ _ 2214 _ _ _ _ _)) og_X12_thrown rfl ml_RL_124 12 rfl rfl c900 im_X12_thrown se_X12_thrown (Nat.le_of_ble_eq_true rfl) dL_law_2211
        refine x_iload dL_law_2214 rfl (?_ : Ex _ _ 2216 _ _ _ _ _)
        rcases ite_some h with ⟨b907, h⟩ | ⟨b907, h⟩
        · refine x_icmp_eq (tgt := 2221) dL_law_2216 rfl b907 (?_ : Ex _ _ 2221 _ _ _ _ _)
          refine x_iload dL_law_2221 rfl (?_ : Ex _ _ 2223 _ _ _ _ _)
          rcases ite_some h with ⟨b908, h⟩ | ⟨b908, h⟩
          · refine x_if_neN dL_law_2223 (by decide) (fun hh => hh b908) (?_ : Ex _ _ 2226 _ _ _ _ _)
            refine x_aload_n dL_law_2226 rfl rfl (Or.inr (by decide)) (?_ : Ex _ _ 2227 _ _ _ _ _)
            refine x_iconst dL_law_2227 rfl (by decide) (?_ : Ex _ _ 2228 _ _ _ _ _)
            obtain ⟨c910, h⟩ := chk_some h
            refine ld_l_1 c910 (by decide) (by decide) dL_law_2228 (?_ : Ex _ _ 2229 _ _ _ _ _)
            refine x_iload dL_law_2229 rfl (?_ : Ex _ _ 2231 _ _ _ _ _)
            refine x_i2l dL_law_2231 (?_ : Ex _ _ 2232 _ _ _ _ _)
            refine x_lcmp dL_law_2232 (?_ : Ex _ _ 2233 _ _ _ _ _)
            rcases ite_some h with ⟨b911, h⟩ | ⟨b911, h⟩
            · refine x_if_eq (tgt := 2238) dL_law_2233 rfl b911 (?_ : Ex _ _ 2238 _ _ _ _ _)
              refine x_goto (tgt := 2241) dL_law_2238 rfl (?_ : Ex _ _ 2241 _ _ _ _ _)
              obtain ⟨c912, h⟩ := chk_some h
              refine x_iinc (ls2 := [(7, 0), (21, l1), (22, l2), (300001, l3), (0, (l4 + 5)), (0, v889), (0, v901)]) dL_law_2241 rfl c912 rfl (?_ : Ex _ _ 2244 _ _ _ _ _)
              refine x_goto (tgt := 23) dL_law_2244 rfl (?_ : Ex _ _ 23 _ _ _ _ _)
              refine Ex.wk (ls2 := [(7, 0), (21, l1), (22, l2), (300001, l3), (0, (l4 + 5)), (3, 0), (3, 0)]) ⟨Or.inr rfl, Or.inr rfl, Or.inr rfl, Or.inr rfl, Or.inr rfl, Or.inl rfl, Or.inl rfl, trivial⟩ ?_
              exact ih h
            · refine x_if_eqN dL_law_2233 (by decide) b911 (?_ : Ex _ _ 2236 _ _ _ _ _)
              refine x_iconst dL_law_2236 rfl (by decide) (?_ : Ex _ _ 2237 _ _ _ _ _)
              cases h
              exact x_ret dL_law_2237 (by decide : (0 : Int) ≠ 3)
          · refine x_if_ne (tgt := 2238) dL_law_2223 rfl b908 (?_ : Ex _ _ 2238 _ _ _ _ _)
            refine x_goto (tgt := 2241) dL_law_2238 rfl (?_ : Ex _ _ 2241 _ _ _ _ _)
            obtain ⟨c909, h⟩ := chk_some h
            refine x_iinc (ls2 := [(7, 0), (21, l1), (22, l2), (300001, l3), (0, (l4 + 5)), (0, v889), (0, v901)]) dL_law_2241 rfl c909 rfl (?_ : Ex _ _ 2244 _ _ _ _ _)
            refine x_goto (tgt := 23) dL_law_2244 rfl (?_ : Ex _ _ 23 _ _ _ _ _)
            refine Ex.wk (ls2 := [(7, 0), (21, l1), (22, l2), (300001, l3), (0, (l4 + 5)), (3, 0), (3, 0)]) ⟨Or.inr rfl, Or.inr rfl, Or.inr rfl, Or.inr rfl, Or.inr rfl, Or.inl rfl, Or.inl rfl, trivial⟩ ?_
            exact ih h
        · refine x_icmp_eqN dL_law_2216 (by decide) b907 (?_ : Ex _ _ 2219 _ _ _ _ _)
          refine x_iconst dL_law_2219 rfl (by decide) (?_ : Ex _ _ 2220 _ _ _ _ _)
          cases h
          exact x_ret dL_law_2220 (by decide : (0 : Int) ≠ 3)
      refine x_tableOut (tgt := 2241) dL_law_39 (by omega) rfl (?_ : Ex _ _ 2241 _ _ _ _ _)
      obtain ⟨c913, h⟩ := chk_some h
      refine x_iinc (ls2 := [(7, 0), (21, l1), (22, l2), (300001, l3), (0, (l4 + 5)), (3, 0), (3, 0)]) dL_law_2241 rfl c913 rfl (?_ : Ex _ _ 2244 _ _ _ _ _)
      refine x_goto (tgt := 23) dL_law_2244 rfl (?_ : Ex _ _ 23 _ _ _ _ _)
      exact ih h
theorem e_L_law_0 (d : Nat) {m : Mem} {v : Int} {m' : Mem} (h : L_law_0 m = some (v, m')) : Ex (d + 47) fm_L_law 0 [(7, 0), (3, 0), (3, 0), (3, 0), (3, 0), (3, 0), (3, 0)] [] m (.inl (0, v)) m' := by
  unfold L_law_0 at h
  obtain ⟨c1, h⟩ := chk_some h
  obtain ⟨m2, hm2, h⟩ := st_some h
  refine nw_11 (by decide) c1 cl_RL_8 dL_law_0 (?_ : Ex _ _ 3 _ _ _ _ _)
  rw [← hm2]
  refine x_dup (by decide : (21 : Int) ≠ 2) dL_law_3 (?_ : Ex _ _ 4 _ _ _ _ _)
  obtain ⟨v3, m4, g5, h⟩ := cal_some h
  refine cI0 (e_X11_init (d + 43) g5) (contV (?_ : Ex _ _ 7 _ _ _ _ _)) og_X11_init rfl ml_RL_114 rfl rfl (by decide) (by decide) im_X11_init (Nat.le_of_ble_eq_true rfl) dL_law_4
  refine x_astore_n (ls2 := [(7, 0), (21, 1), (3, 0), (3, 0), (3, 0), (3, 0), (3, 0)]) dL_law_7 rfl (Nat.le_of_ble_eq_true rfl) (Or.inr (by decide)) rfl (?_ : Ex _ _ 8 _ _ _ _ _)
  obtain ⟨c6, h⟩ := chk_some h
  obtain ⟨m7, hm7, h⟩ := st_some h
  refine nw_12 (by decide) c6 cl_RL_115 dL_law_8 (?_ : Ex _ _ 11 _ _ _ _ _)
  rw [← hm7]
  refine x_dup (by decide : (22 : Int) ≠ 2) dL_law_11 (?_ : Ex _ _ 12 _ _ _ _ _)
  obtain ⟨v8, m9, g10, h⟩ := cal_some h
  refine cI0 (e_X12_init (d + 46) g10) (contV (?_ : Ex _ _ 15 _ _ _ _ _)) og_X12_init rfl ml_RL_117 rfl rfl (by decide) (by decide) im_X12_init (Nat.le_of_ble_eq_true rfl) dL_law_12
  refine x_astore_n (ls2 := [(7, 0), (21, 1), (22, 10), (3, 0), (3, 0), (3, 0), (3, 0)]) dL_law_15 rfl (Nat.le_of_ble_eq_true rfl) (Or.inr (by decide)) rfl (?_ : Ex _ _ 16 _ _ _ _ _)
  refine x_iconst dL_law_16 rfl (by decide) (?_ : Ex _ _ 17 _ _ _ _ _)
  obtain ⟨c11, h⟩ := chk_some h
  obtain ⟨m12, hm12, h⟩ := st_some h
  refine na_l_1 (by decide) c11 dL_law_17 (?_ : Ex _ _ 19 _ _ _ _ _)
  rw [← hm12]
  refine x_astore_n (ls2 := [(7, 0), (21, 1), (22, 10), (300001, 8), (3, 0), (3, 0), (3, 0)]) dL_law_19 rfl (Nat.le_of_ble_eq_true rfl) (Or.inr (by decide)) rfl (?_ : Ex _ _ 20 _ _ _ _ _)
  refine x_iconst dL_law_20 rfl (by decide) (?_ : Ex _ _ 21 _ _ _ _ _)
  refine x_istore (ls2 := [(7, 0), (21, 1), (22, 10), (300001, 8), (0, 0), (3, 0), (3, 0)]) dL_law_21 (Nat.le_of_ble_eq_true rfl) rfl (?_ : Ex _ _ 23 _ _ _ _ _)
  exact e_L_law_23 d fuel9 h
theorem e_L_law (d : Nat) {m : Mem} {v : Int} {m' : Mem} (h : L_law m = some (v, m')) : ExM (d + 47) fm_L_law [(7, 0)] m (.inl (0, v)) m' := by
  obtain ⟨hb, h⟩ := boolR_some h
  exact ExM.of (by decide +kernel) (Nat.le_of_ble_eq_true rfl) (cat9 rfl) (retZ hb) (e_L_law_0 d h)
