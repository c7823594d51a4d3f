/-! the machine does what the functions say, printed -/
theorem dL_law_0 : decode cL_law 0 = .ok (.new 8, 3) := by decide +kernel
theorem dL_law_3 : decode cL_law 3 = .ok (.dup, 1) := by decide +kernel
theorem dL_law_4 : decode cL_law 4 = .ok (.invokespecial 98, 3) := by decide +kernel
theorem dL_law_7 : decode cL_law 7 = .ok (.astore_n 1, 1) := by decide +kernel
theorem dL_law_8 : decode cL_law 8 = .ok (.aload_n 1, 1) := by decide +kernel
theorem dL_law_9 : decode cL_law 9 = .ok (.invokevirtual 99, 3) := by decide +kernel
theorem dL_law_12 : decode cL_law 12 = .ok (.ifCond .ne 14, 3) := by decide +kernel
theorem dL_law_15 : decode cL_law 15 = .ok (.aload_n 1, 1) := by decide +kernel
theorem dL_law_16 : decode cL_law 16 = .ok (.invokevirtual 91, 3) := by decide +kernel
theorem dL_law_19 : decode cL_law 19 = .ok (.ifCond .ne 7, 3) := by decide +kernel
theorem dL_law_22 : decode cL_law 22 = .ok (.iconst 1, 1) := by decide +kernel
theorem dL_law_23 : decode cL_law 23 = .ok (.goto 4, 3) := by decide +kernel
theorem dL_law_26 : decode cL_law 26 = .ok (.iconst 0, 1) := by decide +kernel
theorem dL_law_27 : decode cL_law 27 = .ok (.istore_n 2, 1) := by decide +kernel
theorem dL_law_28 : decode cL_law 28 = .ok (.iconst 0, 1) := by decide +kernel
theorem dL_law_29 : decode cL_law 29 = .ok (.istore_n 3, 1) := by decide +kernel
theorem dL_law_30 : decode cL_law 30 = .ok (.iload_n 3, 1) := by decide +kernel
theorem dL_law_31 : decode cL_law 31 = .ok (.iconst 3, 1) := by decide +kernel
theorem dL_law_32 : decode cL_law 32 = .ok (.if_icmp .ge 295, 3) := by decide +kernel
theorem dL_law_35 : decode cL_law 35 = .ok (.iload_n 2, 1) := by decide +kernel
theorem dL_law_36 : decode cL_law 36 = .ok (.ifCond .eq 291, 3) := by decide +kernel
theorem dL_law_39 : decode cL_law 39 = .ok (.aload_n 0, 1) := by decide +kernel
theorem dL_law_40 : decode cL_law 40 = .ok (.arraylength, 1) := by decide +kernel
theorem dL_law_41 : decode cL_law 41 = .ok (.iload_n 3, 1) := by decide +kernel
theorem dL_law_42 : decode cL_law 42 = .ok (.if_icmp .le 9, 3) := by decide +kernel
theorem dL_law_45 : decode cL_law 45 = .ok (.aload_n 0, 1) := by decide +kernel
theorem dL_law_46 : decode cL_law 46 = .ok (.iload_n 3, 1) := by decide +kernel
theorem dL_law_47 : decode cL_law 47 = .ok (.iaload, 1) := by decide +kernel
theorem dL_law_48 : decode cL_law 48 = .ok (.goto 11, 3) := by decide +kernel
theorem dL_law_51 : decode cL_law 51 = .ok (.sipush 919, 3) := by decide +kernel
theorem dL_law_54 : decode cL_law 54 = .ok (.iload_n 3, 1) := by decide +kernel
theorem dL_law_55 : decode cL_law 55 = .ok (.imul, 1) := by decide +kernel
theorem dL_law_56 : decode cL_law 56 = .ok (.bipush 37, 2) := by decide +kernel
theorem dL_law_58 : decode cL_law 58 = .ok (.iadd, 1) := by decide +kernel
theorem dL_law_59 : decode cL_law 59 = .ok (.istore 4, 2) := by decide +kernel
theorem dL_law_61 : decode cL_law 61 = .ok (.iconst 1, 1) := by decide +kernel
theorem dL_law_62 : decode cL_law 62 = .ok (.istore 5, 2) := by decide +kernel
theorem dL_law_64 : decode cL_law 64 = .ok (.iload 5, 2) := by decide +kernel
theorem dL_law_66 : decode cL_law 66 = .ok (.iconst 3, 1) := by decide +kernel
theorem dL_law_67 : decode cL_law 67 = .ok (.if_icmp .ge 254, 3) := by decide +kernel
theorem dL_law_70 : decode cL_law 70 = .ok (.iload_n 2, 1) := by decide +kernel
theorem dL_law_71 : decode cL_law 71 = .ok (.ifCond .eq 250, 3) := by decide +kernel
theorem dL_law_74 : decode cL_law 74 = .ok (.iconst 3, 1) := by decide +kernel
theorem dL_law_75 : decode cL_law 75 = .ok (.iload 4, 2) := by decide +kernel
theorem dL_law_77 : decode cL_law 77 = .ok (.iconst 3, 1) := by decide +kernel
theorem dL_law_78 : decode cL_law 78 = .ok (.ishr, 1) := by decide +kernel
theorem dL_law_79 : decode cL_law 79 = .ok (.bipush 7, 2) := by decide +kernel
theorem dL_law_81 : decode cL_law 81 = .ok (.iand, 1) := by decide +kernel
theorem dL_law_82 : decode cL_law 82 = .ok (.iconst 5, 1) := by decide +kernel
theorem dL_law_83 : decode cL_law 83 = .ok (.irem, 1) := by decide +kernel
theorem dL_law_84 : decode cL_law 84 = .ok (.iadd, 1) := by decide +kernel
theorem dL_law_85 : decode cL_law 85 = .ok (.istore 6, 2) := by decide +kernel
theorem dL_law_87 : decode cL_law 87 = .ok (.iconst 0, 1) := by decide +kernel
theorem dL_law_88 : decode cL_law 88 = .ok (.istore 7, 2) := by decide +kernel
theorem dL_law_90 : decode cL_law 90 = .ok (.iload 7, 2) := by decide +kernel
theorem dL_law_92 : decode cL_law 92 = .ok (.iload 6, 2) := by decide +kernel
theorem dL_law_94 : decode cL_law 94 = .ok (.if_icmp .ge 126, 3) := by decide +kernel
theorem dL_law_97 : decode cL_law 97 = .ok (.iload 4, 2) := by decide +kernel
theorem dL_law_99 : decode cL_law 99 = .ok (.ldc 102, 2) := by decide +kernel
theorem dL_law_101 : decode cL_law 101 = .ok (.imul, 1) := by decide +kernel
theorem dL_law_102 : decode cL_law 102 = .ok (.sipush 12345, 3) := by decide +kernel
theorem dL_law_105 : decode cL_law 105 = .ok (.iadd, 1) := by decide +kernel
theorem dL_law_106 : decode cL_law 106 = .ok (.istore 4, 2) := by decide +kernel
theorem dL_law_108 : decode cL_law 108 = .ok (.iload 4, 2) := by decide +kernel
theorem dL_law_110 : decode cL_law 110 = .ok (.bipush 8, 2) := by decide +kernel
theorem dL_law_112 : decode cL_law 112 = .ok (.ishr, 1) := by decide +kernel
theorem dL_law_113 : decode cL_law 113 = .ok (.ldc 103, 2) := by decide +kernel
theorem dL_law_115 : decode cL_law 115 = .ok (.iand, 1) := by decide +kernel
theorem dL_law_116 : decode cL_law 116 = .ok (.istore 8, 2) := by decide +kernel
theorem dL_law_118 : decode cL_law 118 = .ok (.iload 8, 2) := by decide +kernel
theorem dL_law_120 : decode cL_law 120 = .ok (.bipush 31, 2) := by decide +kernel
theorem dL_law_122 : decode cL_law 122 = .ok (.iand, 1) := by decide +kernel
theorem dL_law_123 : decode cL_law 123 = .ok (.bipush 14, 2) := by decide +kernel
theorem dL_law_125 : decode cL_law 125 = .ok (.if_icmp .ge 13, 3) := by decide +kernel
theorem dL_law_128 : decode cL_law 128 = .ok (.iload 8, 2) := by decide +kernel
theorem dL_law_130 : decode cL_law 130 = .ok (.bipush 31, 2) := by decide +kernel
theorem dL_law_132 : decode cL_law 132 = .ok (.iand, 1) := by decide +kernel
theorem dL_law_133 : decode cL_law 133 = .ok (.iconst 3, 1) := by decide +kernel
theorem dL_law_134 : decode cL_law 134 = .ok (.irem, 1) := by decide +kernel
theorem dL_law_135 : decode cL_law 135 = .ok (.goto 11, 3) := by decide +kernel
theorem dL_law_138 : decode cL_law 138 = .ok (.iload 8, 2) := by decide +kernel
theorem dL_law_140 : decode cL_law 140 = .ok (.bipush 31, 2) := by decide +kernel
theorem dL_law_142 : decode cL_law 142 = .ok (.iand, 1) := by decide +kernel
theorem dL_law_143 : decode cL_law 143 = .ok (.bipush 16, 2) := by decide +kernel
theorem dL_law_145 : decode cL_law 145 = .ok (.irem, 1) := by decide +kernel
theorem dL_law_146 : decode cL_law 146 = .ok (.istore 9, 2) := by decide +kernel
theorem dL_law_148 : decode cL_law 148 = .ok (.iload 9, 2) := by decide +kernel
theorem dL_law_150 : decode cL_law 150 = .ok (.iconst 3, 1) := by decide +kernel
theorem dL_law_151 : decode cL_law 151 = .ok (.if_icmp .ne 11, 3) := by decide +kernel
theorem dL_law_154 : decode cL_law 154 = .ok (.iload_n 3, 1) := by decide +kernel
theorem dL_law_155 : decode cL_law 155 = .ok (.ifCond .le 7, 3) := by decide +kernel
theorem dL_law_158 : decode cL_law 158 = .ok (.iconst 1, 1) := by decide +kernel
theorem dL_law_159 : decode cL_law 159 = .ok (.goto 5, 3) := by decide +kernel
theorem dL_law_162 : decode cL_law 162 = .ok (.iload 9, 2) := by decide +kernel
theorem dL_law_164 : decode cL_law 164 = .ok (.istore 9, 2) := by decide +kernel
theorem dL_law_166 : decode cL_law 166 = .ok (.iload 8, 2) := by decide +kernel
theorem dL_law_168 : decode cL_law 168 = .ok (.iload 9, 2) := by decide +kernel
theorem dL_law_170 : decode cL_law 170 = .ok (.invokestatic 104, 3) := by decide +kernel
theorem dL_law_173 : decode cL_law 173 = .ok (.istore 10, 2) := by decide +kernel
theorem dL_law_175 : decode cL_law 175 = .ok (.aload_n 1, 1) := by decide +kernel
theorem dL_law_176 : decode cL_law 176 = .ok (.iconst 0, 1) := by decide +kernel
theorem dL_law_177 : decode cL_law 177 = .ok (.iload_n 3, 1) := by decide +kernel
theorem dL_law_178 : decode cL_law 178 = .ok (.iload 9, 2) := by decide +kernel
theorem dL_law_180 : decode cL_law 180 = .ok (.iload 10, 2) := by decide +kernel
theorem dL_law_182 : decode cL_law 182 = .ok (.bipush 100, 2) := by decide +kernel
theorem dL_law_184 : decode cL_law 184 = .ok (.idiv, 1) := by decide +kernel
theorem dL_law_185 : decode cL_law 185 = .ok (.iload 10, 2) := by decide +kernel
theorem dL_law_187 : decode cL_law 187 = .ok (.bipush 100, 2) := by decide +kernel
theorem dL_law_189 : decode cL_law 189 = .ok (.irem, 1) := by decide +kernel
theorem dL_law_190 : decode cL_law 190 = .ok (.invokestatic 85, 3) := by decide +kernel
theorem dL_law_193 : decode cL_law 193 = .ok (.istore 11, 2) := by decide +kernel
theorem dL_law_195 : decode cL_law 195 = .ok (.iload_n 2, 1) := by decide +kernel
theorem dL_law_196 : decode cL_law 196 = .ok (.ifCond .eq 16, 3) := by decide +kernel
theorem dL_law_199 : decode cL_law 199 = .ok (.iload 11, 2) := by decide +kernel
theorem dL_law_201 : decode cL_law 201 = .ok (.iload 7, 2) := by decide +kernel
theorem dL_law_203 : decode cL_law 203 = .ok (.iconst 1, 1) := by decide +kernel
theorem dL_law_204 : decode cL_law 204 = .ok (.iadd, 1) := by decide +kernel
theorem dL_law_205 : decode cL_law 205 = .ok (.if_icmp .ne 7, 3) := by decide +kernel
theorem dL_law_208 : decode cL_law 208 = .ok (.iconst 1, 1) := by decide +kernel
theorem dL_law_209 : decode cL_law 209 = .ok (.goto 4, 3) := by decide +kernel
theorem dL_law_212 : decode cL_law 212 = .ok (.iconst 0, 1) := by decide +kernel
theorem dL_law_213 : decode cL_law 213 = .ok (.istore_n 2, 1) := by decide +kernel
theorem dL_law_214 : decode cL_law 214 = .ok (.iinc 7 1, 3) := by decide +kernel
theorem dL_law_217 : decode cL_law 217 = .ok (.goto (-127), 3) := by decide +kernel
theorem dL_law_220 : decode cL_law 220 = .ok (.aload_n 1, 1) := by decide +kernel
theorem dL_law_221 : decode cL_law 221 = .ok (.iconst 1, 1) := by decide +kernel
theorem dL_law_222 : decode cL_law 222 = .ok (.iload_n 3, 1) := by decide +kernel
theorem dL_law_223 : decode cL_law 223 = .ok (.iconst 0, 1) := by decide +kernel
theorem dL_law_224 : decode cL_law 224 = .ok (.iconst 0, 1) := by decide +kernel
theorem dL_law_225 : decode cL_law 225 = .ok (.iconst 0, 1) := by decide +kernel
theorem dL_law_226 : decode cL_law 226 = .ok (.invokestatic 85, 3) := by decide +kernel
theorem dL_law_229 : decode cL_law 229 = .ok (.istore 7, 2) := by decide +kernel
theorem dL_law_231 : decode cL_law 231 = .ok (.iload 7, 2) := by decide +kernel
theorem dL_law_233 : decode cL_law 233 = .ok (.ldc 55, 2) := by decide +kernel
theorem dL_law_235 : decode cL_law 235 = .ok (.if_icmp .ne 53, 3) := by decide +kernel
theorem dL_law_238 : decode cL_law 238 = .ok (.iload_n 2, 1) := by decide +kernel
theorem dL_law_239 : decode cL_law 239 = .ok (.ifCond .eq 44, 3) := by decide +kernel
theorem dL_law_242 : decode cL_law 242 = .ok (.aload_n 1, 1) := by decide +kernel
theorem dL_law_243 : decode cL_law 243 = .ok (.iload_n 3, 1) := by decide +kernel
theorem dL_law_244 : decode cL_law 244 = .ok (.invokevirtual 107, 3) := by decide +kernel
theorem dL_law_247 : decode cL_law 247 = .ok (.iload 6, 2) := by decide +kernel
theorem dL_law_249 : decode cL_law 249 = .ok (.if_icmp .ne 34, 3) := by decide +kernel
theorem dL_law_252 : decode cL_law 252 = .ok (.aload_n 1, 1) := by decide +kernel
theorem dL_law_253 : decode cL_law 253 = .ok (.iconst 0, 1) := by decide +kernel
theorem dL_law_254 : decode cL_law 254 = .ok (.iload_n 3, 1) := by decide +kernel
theorem dL_law_255 : decode cL_law 255 = .ok (.iconst 0, 1) := by decide +kernel
theorem dL_law_256 : decode cL_law 256 = .ok (.iload_n 3, 1) := by decide +kernel
theorem dL_law_257 : decode cL_law 257 = .ok (.iconst 0, 1) := by decide +kernel
theorem dL_law_258 : decode cL_law 258 = .ok (.invokestatic 85, 3) := by decide +kernel
theorem dL_law_261 : decode cL_law 261 = .ok (.iconst 1, 1) := by decide +kernel
theorem dL_law_262 : decode cL_law 262 = .ok (.if_icmp .ne 21, 3) := by decide +kernel
theorem dL_law_265 : decode cL_law 265 = .ok (.aload_n 1, 1) := by decide +kernel
theorem dL_law_266 : decode cL_law 266 = .ok (.iconst 1, 1) := by decide +kernel
theorem dL_law_267 : decode cL_law 267 = .ok (.iload_n 3, 1) := by decide +kernel
theorem dL_law_268 : decode cL_law 268 = .ok (.iconst 0, 1) := by decide +kernel
theorem dL_law_269 : decode cL_law 269 = .ok (.iconst 0, 1) := by decide +kernel
theorem dL_law_270 : decode cL_law 270 = .ok (.iconst 0, 1) := by decide +kernel
theorem dL_law_271 : decode cL_law 271 = .ok (.invokestatic 85, 3) := by decide +kernel
theorem dL_law_274 : decode cL_law 274 = .ok (.iload 5, 2) := by decide +kernel
theorem dL_law_276 : decode cL_law 276 = .ok (.if_icmp .ne 7, 3) := by decide +kernel
theorem dL_law_279 : decode cL_law 279 = .ok (.iconst 1, 1) := by decide +kernel
theorem dL_law_280 : decode cL_law 280 = .ok (.goto 4, 3) := by decide +kernel
theorem dL_law_283 : decode cL_law 283 = .ok (.iconst 0, 1) := by decide +kernel
theorem dL_law_284 : decode cL_law 284 = .ok (.istore_n 2, 1) := by decide +kernel
theorem dL_law_285 : decode cL_law 285 = .ok (.goto 30, 3) := by decide +kernel
theorem dL_law_288 : decode cL_law 288 = .ok (.iload_n 2, 1) := by decide +kernel
theorem dL_law_289 : decode cL_law 289 = .ok (.ifCond .eq 24, 3) := by decide +kernel
theorem dL_law_292 : decode cL_law 292 = .ok (.iload 7, 2) := by decide +kernel
theorem dL_law_294 : decode cL_law 294 = .ok (.iload 5, 2) := by decide +kernel
theorem dL_law_296 : decode cL_law 296 = .ok (.if_icmp .ne 17, 3) := by decide +kernel
theorem dL_law_299 : decode cL_law 299 = .ok (.aload_n 1, 1) := by decide +kernel
theorem dL_law_300 : decode cL_law 300 = .ok (.iload_n 3, 1) := by decide +kernel
theorem dL_law_301 : decode cL_law 301 = .ok (.invokevirtual 110, 3) := by decide +kernel
theorem dL_law_304 : decode cL_law 304 = .ok (.iload 5, 2) := by decide +kernel
theorem dL_law_306 : decode cL_law 306 = .ok (.if_icmp .ne 7, 3) := by decide +kernel
theorem dL_law_309 : decode cL_law 309 = .ok (.iconst 1, 1) := by decide +kernel
theorem dL_law_310 : decode cL_law 310 = .ok (.goto 4, 3) := by decide +kernel
theorem dL_law_313 : decode cL_law 313 = .ok (.iconst 0, 1) := by decide +kernel
theorem dL_law_314 : decode cL_law 314 = .ok (.istore_n 2, 1) := by decide +kernel
theorem dL_law_315 : decode cL_law 315 = .ok (.iinc 5 1, 3) := by decide +kernel
theorem dL_law_318 : decode cL_law 318 = .ok (.goto (-254), 3) := by decide +kernel
theorem dL_law_321 : decode cL_law 321 = .ok (.iinc 3 1, 3) := by decide +kernel
theorem dL_law_324 : decode cL_law 324 = .ok (.goto (-294), 3) := by decide +kernel
theorem dL_law_327 : decode cL_law 327 = .ok (.aload_n 0, 1) := by decide +kernel
theorem dL_law_328 : decode cL_law 328 = .ok (.arraylength, 1) := by decide +kernel
theorem dL_law_329 : decode cL_law 329 = .ok (.bipush 40, 2) := by decide +kernel
theorem dL_law_331 : decode cL_law 331 = .ok (.if_icmp .ge 8, 3) := by decide +kernel
theorem dL_law_334 : decode cL_law 334 = .ok (.bipush 120, 2) := by decide +kernel
theorem dL_law_336 : decode cL_law 336 = .ok (.goto 20, 3) := by decide +kernel
theorem dL_law_339 : decode cL_law 339 = .ok (.aload_n 0, 1) := by decide +kernel
theorem dL_law_340 : decode cL_law 340 = .ok (.arraylength, 1) := by decide +kernel
theorem dL_law_341 : decode cL_law 341 = .ok (.bipush 80, 2) := by decide +kernel
theorem dL_law_343 : decode cL_law 343 = .ok (.if_icmp .ge 10, 3) := by decide +kernel
theorem dL_law_346 : decode cL_law 346 = .ok (.iconst 2, 1) := by decide +kernel
theorem dL_law_347 : decode cL_law 347 = .ok (.aload_n 0, 1) := by decide +kernel
theorem dL_law_348 : decode cL_law 348 = .ok (.arraylength, 1) := by decide +kernel
theorem dL_law_349 : decode cL_law 349 = .ok (.imul, 1) := by decide +kernel
theorem dL_law_350 : decode cL_law 350 = .ok (.goto 6, 3) := by decide +kernel
theorem dL_law_353 : decode cL_law 353 = .ok (.sipush 180, 3) := by decide +kernel
theorem dL_law_356 : decode cL_law 356 = .ok (.istore_n 3, 1) := by decide +kernel
theorem dL_law_357 : decode cL_law 357 = .ok (.iconst 0, 1) := by decide +kernel
theorem dL_law_358 : decode cL_law 358 = .ok (.istore 4, 2) := by decide +kernel
theorem dL_law_360 : decode cL_law 360 = .ok (.iload 4, 2) := by decide +kernel
theorem dL_law_362 : decode cL_law 362 = .ok (.iload_n 3, 1) := by decide +kernel
theorem dL_law_363 : decode cL_law 363 = .ok (.if_icmp .ge 1054, 3) := by decide +kernel
theorem dL_law_366 : decode cL_law 366 = .ok (.iload_n 2, 1) := by decide +kernel
theorem dL_law_367 : decode cL_law 367 = .ok (.ifCond .eq 1050, 3) := by decide +kernel
theorem dL_law_370 : decode cL_law 370 = .ok (.iload 4, 2) := by decide +kernel
theorem dL_law_372 : decode cL_law 372 = .ok (.iconst 3, 1) := by decide +kernel
theorem dL_law_373 : decode cL_law 373 = .ok (.iadd, 1) := by decide +kernel
theorem dL_law_374 : decode cL_law 374 = .ok (.aload_n 0, 1) := by decide +kernel
theorem dL_law_375 : decode cL_law 375 = .ok (.arraylength, 1) := by decide +kernel
theorem dL_law_376 : decode cL_law 376 = .ok (.if_icmp .ge 12, 3) := by decide +kernel
theorem dL_law_379 : decode cL_law 379 = .ok (.aload_n 0, 1) := by decide +kernel
theorem dL_law_380 : decode cL_law 380 = .ok (.iload 4, 2) := by decide +kernel
theorem dL_law_382 : decode cL_law 382 = .ok (.iconst 3, 1) := by decide +kernel
theorem dL_law_383 : decode cL_law 383 = .ok (.iadd, 1) := by decide +kernel
theorem dL_law_384 : decode cL_law 384 = .ok (.iaload, 1) := by decide +kernel
theorem dL_law_385 : decode cL_law 385 = .ok (.goto 21, 3) := by decide +kernel
theorem dL_law_388 : decode cL_law 388 = .ok (.ldc 113, 2) := by decide +kernel
theorem dL_law_390 : decode cL_law 390 = .ok (.iload 4, 2) := by decide +kernel
theorem dL_law_392 : decode cL_law 392 = .ok (.imul, 1) := by decide +kernel
theorem dL_law_393 : decode cL_law 393 = .ok (.iload 4, 2) := by decide +kernel
theorem dL_law_395 : decode cL_law 395 = .ok (.imul, 1) := by decide +kernel
theorem dL_law_396 : decode cL_law 396 = .ok (.ldc 114, 2) := by decide +kernel
theorem dL_law_398 : decode cL_law 398 = .ok (.iload 4, 2) := by decide +kernel
theorem dL_law_400 : decode cL_law 400 = .ok (.imul, 1) := by decide +kernel
theorem dL_law_401 : decode cL_law 401 = .ok (.iadd, 1) := by decide +kernel
theorem dL_law_402 : decode cL_law 402 = .ok (.sipush 203, 3) := by decide +kernel
theorem dL_law_405 : decode cL_law 405 = .ok (.iadd, 1) := by decide +kernel
theorem dL_law_406 : decode cL_law 406 = .ok (.istore 5, 2) := by decide +kernel
theorem dL_law_408 : decode cL_law 408 = .ok (.iload 5, 2) := by decide +kernel
theorem dL_law_410 : decode cL_law 410 = .ok (.iconst 4, 1) := by decide +kernel
theorem dL_law_411 : decode cL_law 411 = .ok (.ishr, 1) := by decide +kernel
theorem dL_law_412 : decode cL_law 412 = .ok (.ldc 115, 2) := by decide +kernel
theorem dL_law_414 : decode cL_law 414 = .ok (.iand, 1) := by decide +kernel
theorem dL_law_415 : decode cL_law 415 = .ok (.istore 6, 2) := by decide +kernel
theorem dL_law_417 : decode cL_law 417 = .ok (.iload 4, 2) := by decide +kernel
theorem dL_law_419 : decode cL_law 419 = .ok (.iconst 3, 1) := by decide +kernel
theorem dL_law_420 : decode cL_law 420 = .ok (.if_icmp .ge 7, 3) := by decide +kernel
theorem dL_law_423 : decode cL_law 423 = .ok (.iconst 0, 1) := by decide +kernel
theorem dL_law_424 : decode cL_law 424 = .ok (.goto 8, 3) := by decide +kernel
theorem dL_law_427 : decode cL_law 427 = .ok (.iload 5, 2) := by decide +kernel
theorem dL_law_429 : decode cL_law 429 = .ok (.bipush 15, 2) := by decide +kernel
theorem dL_law_431 : decode cL_law 431 = .ok (.iand, 1) := by decide +kernel
theorem dL_law_432 : decode cL_law 432 = .ok (.istore 7, 2) := by decide +kernel
theorem dL_law_434 : decode cL_law 434 = .ok (.aload_n 1, 1) := by decide +kernel
theorem dL_law_435 : decode cL_law 435 = .ok (.invokevirtual 91, 3) := by decide +kernel
theorem dL_law_438 : decode cL_law 438 = .ok (.istore 8, 2) := by decide +kernel
theorem dL_law_440 : decode cL_law 440 = .ok (.iload 8, 2) := by decide +kernel
theorem dL_law_442 : decode cL_law 442 = .ok (.ifCond .ne 7, 3) := by decide +kernel
theorem dL_law_445 : decode cL_law 445 = .ok (.iconst 0, 1) := by decide +kernel
theorem dL_law_446 : decode cL_law 446 = .ok (.goto 8, 3) := by decide +kernel
theorem dL_law_449 : decode cL_law 449 = .ok (.iload 6, 2) := by decide +kernel
theorem dL_law_451 : decode cL_law 451 = .ok (.iload 8, 2) := by decide +kernel
theorem dL_law_453 : decode cL_law 453 = .ok (.irem, 1) := by decide +kernel
theorem dL_law_454 : decode cL_law 454 = .ok (.istore 9, 2) := by decide +kernel
theorem dL_law_456 : decode cL_law 456 = .ok (.iload 6, 2) := by decide +kernel
theorem dL_law_458 : decode cL_law 458 = .ok (.iconst 2, 1) := by decide +kernel
theorem dL_law_459 : decode cL_law 459 = .ok (.ishr, 1) := by decide +kernel
theorem dL_law_460 : decode cL_law 460 = .ok (.iconst 3, 1) := by decide +kernel
theorem dL_law_461 : decode cL_law 461 = .ok (.iand, 1) := by decide +kernel
theorem dL_law_462 : decode cL_law 462 = .ok (.istore 10, 2) := by decide +kernel
theorem dL_law_464 : decode cL_law 464 = .ok (.iload 7, 2) := by decide +kernel
theorem dL_law_466 : decode cL_law 466 = .ok (.ifCond .ne 80, 3) := by decide +kernel
theorem dL_law_469 : decode cL_law 469 = .ok (.iload 8, 2) := by decide +kernel
theorem dL_law_471 : decode cL_law 471 = .ok (.bipush 7, 2) := by decide +kernel
theorem dL_law_473 : decode cL_law 473 = .ok (.if_icmp .ge 73, 3) := by decide +kernel
theorem dL_law_476 : decode cL_law 476 = .ok (.aload_n 1, 1) := by decide +kernel
theorem dL_law_477 : decode cL_law 477 = .ok (.iconst 2, 1) := by decide +kernel
theorem dL_law_478 : decode cL_law 478 = .ok (.iload 6, 2) := by decide +kernel
theorem dL_law_480 : decode cL_law 480 = .ok (.iconst 1, 1) := by decide +kernel
theorem dL_law_481 : decode cL_law 481 = .ok (.ishr, 1) := by decide +kernel
theorem dL_law_482 : decode cL_law 482 = .ok (.iconst 3, 1) := by decide +kernel
theorem dL_law_483 : decode cL_law 483 = .ok (.irem, 1) := by decide +kernel
theorem dL_law_484 : decode cL_law 484 = .ok (.iload 6, 2) := by decide +kernel
theorem dL_law_486 : decode cL_law 486 = .ok (.iconst 4, 1) := by decide +kernel
theorem dL_law_487 : decode cL_law 487 = .ok (.ishr, 1) := by decide +kernel
theorem dL_law_488 : decode cL_law 488 = .ok (.iconst 3, 1) := by decide +kernel
theorem dL_law_489 : decode cL_law 489 = .ok (.irem, 1) := by decide +kernel
theorem dL_law_490 : decode cL_law 490 = .ok (.iload 6, 2) := by decide +kernel
theorem dL_law_492 : decode cL_law 492 = .ok (.bipush 6, 2) := by decide +kernel
theorem dL_law_494 : decode cL_law 494 = .ok (.ishr, 1) := by decide +kernel
theorem dL_law_495 : decode cL_law 495 = .ok (.bipush 60, 2) := by decide +kernel
theorem dL_law_497 : decode cL_law 497 = .ok (.irem, 1) := by decide +kernel
theorem dL_law_498 : decode cL_law 498 = .ok (.iconst 0, 1) := by decide +kernel
theorem dL_law_499 : decode cL_law 499 = .ok (.invokestatic 85, 3) := by decide +kernel
theorem dL_law_502 : decode cL_law 502 = .ok (.iload 8, 2) := by decide +kernel
theorem dL_law_504 : decode cL_law 504 = .ok (.if_icmp .ne 37, 3) := by decide +kernel
theorem dL_law_507 : decode cL_law 507 = .ok (.aload_n 1, 1) := by decide +kernel
theorem dL_law_508 : decode cL_law 508 = .ok (.iload 8, 2) := by decide +kernel
theorem dL_law_510 : decode cL_law 510 = .ok (.invokevirtual 81, 3) := by decide +kernel
theorem dL_law_513 : decode cL_law 513 = .ok (.ifCond .eq 28, 3) := by decide +kernel
theorem dL_law_516 : decode cL_law 516 = .ok (.aload_n 1, 1) := by decide +kernel
theorem dL_law_517 : decode cL_law 517 = .ok (.iload 8, 2) := by decide +kernel
theorem dL_law_519 : decode cL_law 519 = .ok (.iconst 1, 1) := by decide +kernel
theorem dL_law_520 : decode cL_law 520 = .ok (.invokevirtual 56, 3) := by decide +kernel
theorem dL_law_523 : decode cL_law 523 = .ok (.iconst 1, 1) := by decide +kernel
theorem dL_law_524 : decode cL_law 524 = .ok (.if_icmp .ne 17, 3) := by decide +kernel
theorem dL_law_527 : decode cL_law 527 = .ok (.aload_n 1, 1) := by decide +kernel
theorem dL_law_528 : decode cL_law 528 = .ok (.iload 8, 2) := by decide +kernel
theorem dL_law_530 : decode cL_law 530 = .ok (.invokevirtual 75, 3) := by decide +kernel
theorem dL_law_533 : decode cL_law 533 = .ok (.iconst (-1), 1) := by decide +kernel
theorem dL_law_534 : decode cL_law 534 = .ok (.if_icmp .ne 7, 3) := by decide +kernel
theorem dL_law_537 : decode cL_law 537 = .ok (.iconst 1, 1) := by decide +kernel
theorem dL_law_538 : decode cL_law 538 = .ok (.goto 4, 3) := by decide +kernel
theorem dL_law_541 : decode cL_law 541 = .ok (.iconst 0, 1) := by decide +kernel
theorem dL_law_542 : decode cL_law 542 = .ok (.istore_n 2, 1) := by decide +kernel
theorem dL_law_543 : decode cL_law 543 = .ok (.goto 744, 3) := by decide +kernel
theorem dL_law_546 : decode cL_law 546 = .ok (.iload 7, 2) := by decide +kernel
theorem dL_law_548 : decode cL_law 548 = .ok (.iconst 3, 1) := by decide +kernel
theorem dL_law_549 : decode cL_law 549 = .ok (.if_icmp .ge 120, 3) := by decide +kernel
theorem dL_law_552 : decode cL_law 552 = .ok (.aload_n 1, 1) := by decide +kernel
theorem dL_law_553 : decode cL_law 553 = .ok (.iload 9, 2) := by decide +kernel
theorem dL_law_555 : decode cL_law 555 = .ok (.invokevirtual 69, 3) := by decide +kernel
theorem dL_law_558 : decode cL_law 558 = .ok (.istore 11, 2) := by decide +kernel
theorem dL_law_560 : decode cL_law 560 = .ok (.aload_n 1, 1) := by decide +kernel
theorem dL_law_561 : decode cL_law 561 = .ok (.iload 9, 2) := by decide +kernel
theorem dL_law_563 : decode cL_law 563 = .ok (.iload 11, 2) := by decide +kernel
theorem dL_law_565 : decode cL_law 565 = .ok (.invokevirtual 56, 3) := by decide +kernel
theorem dL_law_568 : decode cL_law 568 = .ok (.istore 12, 2) := by decide +kernel
theorem dL_law_570 : decode cL_law 570 = .ok (.aload_n 1, 1) := by decide +kernel
theorem dL_law_571 : decode cL_law 571 = .ok (.iload 9, 2) := by decide +kernel
theorem dL_law_573 : decode cL_law 573 = .ok (.iload 6, 2) := by decide +kernel
theorem dL_law_575 : decode cL_law 575 = .ok (.iconst 4, 1) := by decide +kernel
theorem dL_law_576 : decode cL_law 576 = .ok (.ishr, 1) := by decide +kernel
theorem dL_law_577 : decode cL_law 577 = .ok (.iconst 3, 1) := by decide +kernel
theorem dL_law_578 : decode cL_law 578 = .ok (.irem, 1) := by decide +kernel
theorem dL_law_579 : decode cL_law 579 = .ok (.iload 6, 2) := by decide +kernel
theorem dL_law_581 : decode cL_law 581 = .ok (.bipush 7, 2) := by decide +kernel
theorem dL_law_583 : decode cL_law 583 = .ok (.ishr, 1) := by decide +kernel
theorem dL_law_584 : decode cL_law 584 = .ok (.bipush 60, 2) := by decide +kernel
theorem dL_law_586 : decode cL_law 586 = .ok (.irem, 1) := by decide +kernel
theorem dL_law_587 : decode cL_law 587 = .ok (.invokevirtual 116, 3) := by decide +kernel
theorem dL_law_590 : decode cL_law 590 = .ok (.istore 13, 2) := by decide +kernel
theorem dL_law_592 : decode cL_law 592 = .ok (.iload 13, 2) := by decide +kernel
theorem dL_law_594 : decode cL_law 594 = .ok (.aload_n 1, 1) := by decide +kernel
theorem dL_law_595 : decode cL_law 595 = .ok (.iload 9, 2) := by decide +kernel
theorem dL_law_597 : decode cL_law 597 = .ok (.iload 11, 2) := by decide +kernel
theorem dL_law_599 : decode cL_law 599 = .ok (.invokevirtual 59, 3) := by decide +kernel
theorem dL_law_602 : decode cL_law 602 = .ok (.bipush 20, 2) := by decide +kernel
theorem dL_law_604 : decode cL_law 604 = .ok (.if_icmp .ne 14, 3) := by decide +kernel
theorem dL_law_607 : decode cL_law 607 = .ok (.iload 12, 2) := by decide +kernel
theorem dL_law_609 : decode cL_law 609 = .ok (.bipush 78, 2) := by decide +kernel
theorem dL_law_611 : decode cL_law 611 = .ok (.if_icmp .ge 7, 3) := by decide +kernel
theorem dL_law_614 : decode cL_law 614 = .ok (.iconst 1, 1) := by decide +kernel
theorem dL_law_615 : decode cL_law 615 = .ok (.goto 4, 3) := by decide +kernel
theorem dL_law_618 : decode cL_law 618 = .ok (.iconst 0, 1) := by decide +kernel
theorem dL_law_619 : decode cL_law 619 = .ok (.if_icmp .ne 45, 3) := by decide +kernel
theorem dL_law_622 : decode cL_law 622 = .ok (.aload_n 1, 1) := by decide +kernel
theorem dL_law_623 : decode cL_law 623 = .ok (.iload 9, 2) := by decide +kernel
theorem dL_law_625 : decode cL_law 625 = .ok (.iload 11, 2) := by decide +kernel
theorem dL_law_627 : decode cL_law 627 = .ok (.invokevirtual 56, 3) := by decide +kernel
theorem dL_law_630 : decode cL_law 630 = .ok (.iload 12, 2) := by decide +kernel
theorem dL_law_632 : decode cL_law 632 = .ok (.iload 13, 2) := by decide +kernel
theorem dL_law_634 : decode cL_law 634 = .ok (.ifCond .eq 7, 3) := by decide +kernel
theorem dL_law_637 : decode cL_law 637 = .ok (.iconst 1, 1) := by decide +kernel
theorem dL_law_638 : decode cL_law 638 = .ok (.goto 4, 3) := by decide +kernel
theorem dL_law_641 : decode cL_law 641 = .ok (.iconst 0, 1) := by decide +kernel
theorem dL_law_642 : decode cL_law 642 = .ok (.iadd, 1) := by decide +kernel
theorem dL_law_643 : decode cL_law 643 = .ok (.if_icmp .ne 21, 3) := by decide +kernel
theorem dL_law_646 : decode cL_law 646 = .ok (.iload 13, 2) := by decide +kernel
theorem dL_law_648 : decode cL_law 648 = .ok (.ifCond .eq 12, 3) := by decide +kernel
theorem dL_law_651 : decode cL_law 651 = .ok (.aload_n 1, 1) := by decide +kernel
theorem dL_law_652 : decode cL_law 652 = .ok (.iload 9, 2) := by decide +kernel
theorem dL_law_654 : decode cL_law 654 = .ok (.invokevirtual 81, 3) := by decide +kernel
theorem dL_law_657 : decode cL_law 657 = .ok (.ifCond .eq 7, 3) := by decide +kernel
theorem dL_law_660 : decode cL_law 660 = .ok (.iconst 1, 1) := by decide +kernel
theorem dL_law_661 : decode cL_law 661 = .ok (.goto 4, 3) := by decide +kernel
theorem dL_law_664 : decode cL_law 664 = .ok (.iconst 0, 1) := by decide +kernel
theorem dL_law_665 : decode cL_law 665 = .ok (.istore_n 2, 1) := by decide +kernel
theorem dL_law_666 : decode cL_law 666 = .ok (.goto 621, 3) := by decide +kernel
theorem dL_law_669 : decode cL_law 669 = .ok (.iload 7, 2) := by decide +kernel
theorem dL_law_671 : decode cL_law 671 = .ok (.iconst 3, 1) := by decide +kernel
theorem dL_law_672 : decode cL_law 672 = .ok (.if_icmp .ne 65, 3) := by decide +kernel
theorem dL_law_675 : decode cL_law 675 = .ok (.iload 6, 2) := by decide +kernel
theorem dL_law_677 : decode cL_law 677 = .ok (.iconst 3, 1) := by decide +kernel
theorem dL_law_678 : decode cL_law 678 = .ok (.ishr, 1) := by decide +kernel
theorem dL_law_679 : decode cL_law 679 = .ok (.iconst 3, 1) := by decide +kernel
theorem dL_law_680 : decode cL_law 680 = .ok (.iand, 1) := by decide +kernel
theorem dL_law_681 : decode cL_law 681 = .ok (.ifCond .ne 56, 3) := by decide +kernel
theorem dL_law_684 : decode cL_law 684 = .ok (.aload_n 1, 1) := by decide +kernel
theorem dL_law_685 : decode cL_law 685 = .ok (.iload 9, 2) := by decide +kernel
theorem dL_law_687 : decode cL_law 687 = .ok (.invokevirtual 120, 3) := by decide +kernel
theorem dL_law_690 : decode cL_law 690 = .ok (.ifCond .eq 29, 3) := by decide +kernel
theorem dL_law_693 : decode cL_law 693 = .ok (.aload_n 1, 1) := by decide +kernel
theorem dL_law_694 : decode cL_law 694 = .ok (.iload 9, 2) := by decide +kernel
theorem dL_law_696 : decode cL_law 696 = .ok (.invokevirtual 81, 3) := by decide +kernel
theorem dL_law_699 : decode cL_law 699 = .ok (.ifCond .eq 16, 3) := by decide +kernel
theorem dL_law_702 : decode cL_law 702 = .ok (.aload_n 1, 1) := by decide +kernel
theorem dL_law_703 : decode cL_law 703 = .ok (.iload 9, 2) := by decide +kernel
theorem dL_law_705 : decode cL_law 705 = .ok (.invokevirtual 120, 3) := by decide +kernel
theorem dL_law_708 : decode cL_law 708 = .ok (.ifCond .ne 7, 3) := by decide +kernel
theorem dL_law_711 : decode cL_law 711 = .ok (.iconst 1, 1) := by decide +kernel
theorem dL_law_712 : decode cL_law 712 = .ok (.goto 21, 3) := by decide +kernel
theorem dL_law_715 : decode cL_law 715 = .ok (.iconst 0, 1) := by decide +kernel
theorem dL_law_716 : decode cL_law 716 = .ok (.goto 17, 3) := by decide +kernel
theorem dL_law_719 : decode cL_law 719 = .ok (.aload_n 1, 1) := by decide +kernel
theorem dL_law_720 : decode cL_law 720 = .ok (.iload 9, 2) := by decide +kernel
theorem dL_law_722 : decode cL_law 722 = .ok (.invokevirtual 120, 3) := by decide +kernel
theorem dL_law_725 : decode cL_law 725 = .ok (.ifCond .ne 7, 3) := by decide +kernel
theorem dL_law_728 : decode cL_law 728 = .ok (.iconst 1, 1) := by decide +kernel
theorem dL_law_729 : decode cL_law 729 = .ok (.goto 4, 3) := by decide +kernel
theorem dL_law_732 : decode cL_law 732 = .ok (.iconst 0, 1) := by decide +kernel
theorem dL_law_733 : decode cL_law 733 = .ok (.istore_n 2, 1) := by decide +kernel
theorem dL_law_734 : decode cL_law 734 = .ok (.goto 553, 3) := by decide +kernel
theorem dL_law_737 : decode cL_law 737 = .ok (.iload 7, 2) := by decide +kernel
theorem dL_law_739 : decode cL_law 739 = .ok (.bipush 9, 2) := by decide +kernel
theorem dL_law_741 : decode cL_law 741 = .ok (.if_icmp .ge 23, 3) := by decide +kernel
theorem dL_law_744 : decode cL_law 744 = .ok (.aload_n 1, 1) := by decide +kernel
theorem dL_law_745 : decode cL_law 745 = .ok (.iload 9, 2) := by decide +kernel
theorem dL_law_747 : decode cL_law 747 = .ok (.iconst 1, 1) := by decide +kernel
theorem dL_law_748 : decode cL_law 748 = .ok (.iload 6, 2) := by decide +kernel
theorem dL_law_750 : decode cL_law 750 = .ok (.iconst 5, 1) := by decide +kernel
theorem dL_law_751 : decode cL_law 751 = .ok (.ishr, 1) := by decide +kernel
theorem dL_law_752 : decode cL_law 752 = .ok (.iconst 3, 1) := by decide +kernel
theorem dL_law_753 : decode cL_law 753 = .ok (.iand, 1) := by decide +kernel
theorem dL_law_754 : decode cL_law 754 = .ok (.iconst 3, 1) := by decide +kernel
theorem dL_law_755 : decode cL_law 755 = .ok (.idiv, 1) := by decide +kernel
theorem dL_law_756 : decode cL_law 756 = .ok (.iadd, 1) := by decide +kernel
theorem dL_law_757 : decode cL_law 757 = .ok (.invokestatic 123, 3) := by decide +kernel
theorem dL_law_760 : decode cL_law 760 = .ok (.istore_n 2, 1) := by decide +kernel
theorem dL_law_761 : decode cL_law 761 = .ok (.goto 526, 3) := by decide +kernel
theorem dL_law_764 : decode cL_law 764 = .ok (.iload 7, 2) := by decide +kernel
theorem dL_law_766 : decode cL_law 766 = .ok (.bipush 11, 2) := by decide +kernel
theorem dL_law_768 : decode cL_law 768 = .ok (.if_icmp .ge 129, 3) := by decide +kernel
theorem dL_law_771 : decode cL_law 771 = .ok (.iload 6, 2) := by decide +kernel
theorem dL_law_773 : decode cL_law 773 = .ok (.iconst 4, 1) := by decide +kernel
theorem dL_law_774 : decode cL_law 774 = .ok (.ishr, 1) := by decide +kernel
theorem dL_law_775 : decode cL_law 775 = .ok (.iconst 1, 1) := by decide +kernel
theorem dL_law_776 : decode cL_law 776 = .ok (.iand, 1) := by decide +kernel
theorem dL_law_777 : decode cL_law 777 = .ok (.istore 11, 2) := by decide +kernel
theorem dL_law_779 : decode cL_law 779 = .ok (.aload_n 1, 1) := by decide +kernel
theorem dL_law_780 : decode cL_law 780 = .ok (.iload 11, 2) := by decide +kernel
theorem dL_law_782 : decode cL_law 782 = .ok (.invokevirtual 95, 3) := by decide +kernel
theorem dL_law_785 : decode cL_law 785 = .ok (.istore 12, 2) := by decide +kernel
theorem dL_law_787 : decode cL_law 787 = .ok (.aload_n 1, 1) := by decide +kernel
theorem dL_law_788 : decode cL_law 788 = .ok (.iload 10, 2) := by decide +kernel
theorem dL_law_790 : decode cL_law 790 = .ok (.invokevirtual 88, 3) := by decide +kernel
theorem dL_law_793 : decode cL_law 793 = .ok (.istore 13, 2) := by decide +kernel
theorem dL_law_795 : decode cL_law 795 = .ok (.aload_n 1, 1) := by decide +kernel
theorem dL_law_796 : decode cL_law 796 = .ok (.iconst 4, 1) := by decide +kernel
theorem dL_law_797 : decode cL_law 797 = .ok (.iload 10, 2) := by decide +kernel
theorem dL_law_799 : decode cL_law 799 = .ok (.iload 11, 2) := by decide +kernel
theorem dL_law_801 : decode cL_law 801 = .ok (.iconst 0, 1) := by decide +kernel
theorem dL_law_802 : decode cL_law 802 = .ok (.iconst 0, 1) := by decide +kernel
theorem dL_law_803 : decode cL_law 803 = .ok (.invokestatic 85, 3) := by decide +kernel
theorem dL_law_806 : decode cL_law 806 = .ok (.istore 14, 2) := by decide +kernel
theorem dL_law_808 : decode cL_law 808 = .ok (.iload 14, 2) := by decide +kernel
theorem dL_law_810 : decode cL_law 810 = .ok (.ldc 55, 2) := by decide +kernel
theorem dL_law_812 : decode cL_law 812 = .ok (.if_icmp .ne 22, 3) := by decide +kernel
theorem dL_law_815 : decode cL_law 815 = .ok (.aload_n 1, 1) := by decide +kernel
theorem dL_law_816 : decode cL_law 816 = .ok (.iload 11, 2) := by decide +kernel
theorem dL_law_818 : decode cL_law 818 = .ok (.invokevirtual 95, 3) := by decide +kernel
theorem dL_law_821 : decode cL_law 821 = .ok (.iload 12, 2) := by decide +kernel
theorem dL_law_823 : decode cL_law 823 = .ok (.if_icmp .ne 7, 3) := by decide +kernel
theorem dL_law_826 : decode cL_law 826 = .ok (.iconst 1, 1) := by decide +kernel
theorem dL_law_827 : decode cL_law 827 = .ok (.goto 66, 3) := by decide +kernel
theorem dL_law_830 : decode cL_law 830 = .ok (.iconst 0, 1) := by decide +kernel
theorem dL_law_831 : decode cL_law 831 = .ok (.goto 62, 3) := by decide +kernel
theorem dL_law_834 : decode cL_law 834 = .ok (.iload 14, 2) := by decide +kernel
theorem dL_law_836 : decode cL_law 836 = .ok (.iconst (-1), 1) := by decide +kernel
theorem dL_law_837 : decode cL_law 837 = .ok (.if_icmp .ne 21, 3) := by decide +kernel
theorem dL_law_840 : decode cL_law 840 = .ok (.aload_n 1, 1) := by decide +kernel
theorem dL_law_841 : decode cL_law 841 = .ok (.iload 10, 2) := by decide +kernel
theorem dL_law_843 : decode cL_law 843 = .ok (.invokevirtual 88, 3) := by decide +kernel
theorem dL_law_846 : decode cL_law 846 = .ok (.iconst (-1), 1) := by decide +kernel
theorem dL_law_847 : decode cL_law 847 = .ok (.if_icmp .ne 7, 3) := by decide +kernel
theorem dL_law_850 : decode cL_law 850 = .ok (.iconst 1, 1) := by decide +kernel
theorem dL_law_851 : decode cL_law 851 = .ok (.goto 42, 3) := by decide +kernel
theorem dL_law_854 : decode cL_law 854 = .ok (.iconst 0, 1) := by decide +kernel
theorem dL_law_855 : decode cL_law 855 = .ok (.goto 38, 3) := by decide +kernel
theorem dL_law_858 : decode cL_law 858 = .ok (.iload 13, 2) := by decide +kernel
theorem dL_law_860 : decode cL_law 860 = .ok (.iconst (-1), 1) := by decide +kernel
theorem dL_law_861 : decode cL_law 861 = .ok (.if_icmp .ne 31, 3) := by decide +kernel
theorem dL_law_864 : decode cL_law 864 = .ok (.iload 14, 2) := by decide +kernel
theorem dL_law_866 : decode cL_law 866 = .ok (.aload_n 1, 1) := by decide +kernel
theorem dL_law_867 : decode cL_law 867 = .ok (.iload 10, 2) := by decide +kernel
theorem dL_law_869 : decode cL_law 869 = .ok (.invokevirtual 88, 3) := by decide +kernel
theorem dL_law_872 : decode cL_law 872 = .ok (.if_icmp .ne 20, 3) := by decide +kernel
theorem dL_law_875 : decode cL_law 875 = .ok (.aload_n 1, 1) := by decide +kernel
theorem dL_law_876 : decode cL_law 876 = .ok (.iload 11, 2) := by decide +kernel
theorem dL_law_878 : decode cL_law 878 = .ok (.invokevirtual 95, 3) := by decide +kernel
theorem dL_law_881 : decode cL_law 881 = .ok (.iload 12, 2) := by decide +kernel
theorem dL_law_883 : decode cL_law 883 = .ok (.iconst 1, 1) := by decide +kernel
theorem dL_law_884 : decode cL_law 884 = .ok (.isub, 1) := by decide +kernel
theorem dL_law_885 : decode cL_law 885 = .ok (.if_icmp .ne 7, 3) := by decide +kernel
theorem dL_law_888 : decode cL_law 888 = .ok (.iconst 1, 1) := by decide +kernel
theorem dL_law_889 : decode cL_law 889 = .ok (.goto 4, 3) := by decide +kernel
theorem dL_law_892 : decode cL_law 892 = .ok (.iconst 0, 1) := by decide +kernel
theorem dL_law_893 : decode cL_law 893 = .ok (.istore_n 2, 1) := by decide +kernel
theorem dL_law_894 : decode cL_law 894 = .ok (.goto 393, 3) := by decide +kernel
theorem dL_law_897 : decode cL_law 897 = .ok (.iload 7, 2) := by decide +kernel
theorem dL_law_899 : decode cL_law 899 = .ok (.bipush 11, 2) := by decide +kernel
theorem dL_law_901 : decode cL_law 901 = .ok (.if_icmp .ne 89, 3) := by decide +kernel
theorem dL_law_904 : decode cL_law 904 = .ok (.aload_n 1, 1) := by decide +kernel
theorem dL_law_905 : decode cL_law 905 = .ok (.iload 10, 2) := by decide +kernel
theorem dL_law_907 : decode cL_law 907 = .ok (.invokevirtual 88, 3) := by decide +kernel
theorem dL_law_910 : decode cL_law 910 = .ok (.istore 11, 2) := by decide +kernel
theorem dL_law_912 : decode cL_law 912 = .ok (.aload_n 1, 1) := by decide +kernel
theorem dL_law_913 : decode cL_law 913 = .ok (.bipush 6, 2) := by decide +kernel
theorem dL_law_915 : decode cL_law 915 = .ok (.iload 10, 2) := by decide +kernel
theorem dL_law_917 : decode cL_law 917 = .ok (.iload 6, 2) := by decide +kernel
theorem dL_law_919 : decode cL_law 919 = .ok (.bipush 6, 2) := by decide +kernel
theorem dL_law_921 : decode cL_law 921 = .ok (.ishr, 1) := by decide +kernel
theorem dL_law_922 : decode cL_law 922 = .ok (.bipush 99, 2) := by decide +kernel
theorem dL_law_924 : decode cL_law 924 = .ok (.irem, 1) := by decide +kernel
theorem dL_law_925 : decode cL_law 925 = .ok (.iconst 0, 1) := by decide +kernel
theorem dL_law_926 : decode cL_law 926 = .ok (.iconst 0, 1) := by decide +kernel
theorem dL_law_927 : decode cL_law 927 = .ok (.invokestatic 85, 3) := by decide +kernel
theorem dL_law_930 : decode cL_law 930 = .ok (.istore 12, 2) := by decide +kernel
theorem dL_law_932 : decode cL_law 932 = .ok (.iload 11, 2) := by decide +kernel
theorem dL_law_934 : decode cL_law 934 = .ok (.iconst (-1), 1) := by decide +kernel
theorem dL_law_935 : decode cL_law 935 = .ok (.if_icmp .ne 18, 3) := by decide +kernel
theorem dL_law_938 : decode cL_law 938 = .ok (.iload 12, 2) := by decide +kernel
theorem dL_law_940 : decode cL_law 940 = .ok (.ldc 55, 2) := by decide +kernel
theorem dL_law_942 : decode cL_law 942 = .ok (.if_icmp .ne 7, 3) := by decide +kernel
theorem dL_law_945 : decode cL_law 945 = .ok (.iconst 1, 1) := by decide +kernel
theorem dL_law_946 : decode cL_law 946 = .ok (.goto 40, 3) := by decide +kernel
theorem dL_law_949 : decode cL_law 949 = .ok (.iconst 0, 1) := by decide +kernel
theorem dL_law_950 : decode cL_law 950 = .ok (.goto 36, 3) := by decide +kernel
theorem dL_law_953 : decode cL_law 953 = .ok (.aload_n 1, 1) := by decide +kernel
theorem dL_law_954 : decode cL_law 954 = .ok (.iload 10, 2) := by decide +kernel
theorem dL_law_956 : decode cL_law 956 = .ok (.invokevirtual 88, 3) := by decide +kernel
theorem dL_law_959 : decode cL_law 959 = .ok (.iconst (-1), 1) := by decide +kernel
theorem dL_law_960 : decode cL_law 960 = .ok (.if_icmp .ne 25, 3) := by decide +kernel
theorem dL_law_963 : decode cL_law 963 = .ok (.iload 12, 2) := by decide +kernel
theorem dL_law_965 : decode cL_law 965 = .ok (.ifCond .eq 16, 3) := by decide +kernel
theorem dL_law_968 : decode cL_law 968 = .ok (.aload_n 1, 1) := by decide +kernel
theorem dL_law_969 : decode cL_law 969 = .ok (.iload 11, 2) := by decide +kernel
theorem dL_law_971 : decode cL_law 971 = .ok (.sipush 1000, 3) := by decide +kernel
theorem dL_law_974 : decode cL_law 974 = .ok (.idiv, 1) := by decide +kernel
theorem dL_law_975 : decode cL_law 975 = .ok (.invokevirtual 81, 3) := by decide +kernel
theorem dL_law_978 : decode cL_law 978 = .ok (.ifCond .eq 7, 3) := by decide +kernel
theorem dL_law_981 : decode cL_law 981 = .ok (.iconst 1, 1) := by decide +kernel
theorem dL_law_982 : decode cL_law 982 = .ok (.goto 4, 3) := by decide +kernel
theorem dL_law_985 : decode cL_law 985 = .ok (.iconst 0, 1) := by decide +kernel
theorem dL_law_986 : decode cL_law 986 = .ok (.istore_n 2, 1) := by decide +kernel
theorem dL_law_987 : decode cL_law 987 = .ok (.goto 300, 3) := by decide +kernel
theorem dL_law_990 : decode cL_law 990 = .ok (.iload 7, 2) := by decide +kernel
theorem dL_law_992 : decode cL_law 992 = .ok (.bipush 12, 2) := by decide +kernel
theorem dL_law_994 : decode cL_law 994 = .ok (.if_icmp .ne 84, 3) := by decide +kernel
theorem dL_law_997 : decode cL_law 997 = .ok (.iload 6, 2) := by decide +kernel
theorem dL_law_999 : decode cL_law 999 = .ok (.iconst 5, 1) := by decide +kernel
theorem dL_law_1000 : decode cL_law 1000 = .ok (.ishr, 1) := by decide +kernel
theorem dL_law_1001 : decode cL_law 1001 = .ok (.iconst 1, 1) := by decide +kernel
theorem dL_law_1002 : decode cL_law 1002 = .ok (.iand, 1) := by decide +kernel
theorem dL_law_1003 : decode cL_law 1003 = .ok (.ifCond .ne 75, 3) := by decide +kernel
theorem dL_law_1006 : decode cL_law 1006 = .ok (.aload_n 1, 1) := by decide +kernel
theorem dL_law_1007 : decode cL_law 1007 = .ok (.iload 10, 2) := by decide +kernel
theorem dL_law_1009 : decode cL_law 1009 = .ok (.invokevirtual 88, 3) := by decide +kernel
theorem dL_law_1012 : decode cL_law 1012 = .ok (.istore 11, 2) := by decide +kernel
theorem dL_law_1014 : decode cL_law 1014 = .ok (.aload_n 1, 1) := by decide +kernel
theorem dL_law_1015 : decode cL_law 1015 = .ok (.bipush 7, 2) := by decide +kernel
theorem dL_law_1017 : decode cL_law 1017 = .ok (.iload 10, 2) := by decide +kernel
theorem dL_law_1019 : decode cL_law 1019 = .ok (.iconst 0, 1) := by decide +kernel
theorem dL_law_1020 : decode cL_law 1020 = .ok (.iconst 0, 1) := by decide +kernel
theorem dL_law_1021 : decode cL_law 1021 = .ok (.iconst 0, 1) := by decide +kernel
theorem dL_law_1022 : decode cL_law 1022 = .ok (.invokestatic 85, 3) := by decide +kernel
theorem dL_law_1025 : decode cL_law 1025 = .ok (.istore 12, 2) := by decide +kernel
theorem dL_law_1027 : decode cL_law 1027 = .ok (.iload 11, 2) := by decide +kernel
theorem dL_law_1029 : decode cL_law 1029 = .ok (.iconst (-1), 1) := by decide +kernel
theorem dL_law_1030 : decode cL_law 1030 = .ok (.if_icmp .ne 18, 3) := by decide +kernel
theorem dL_law_1033 : decode cL_law 1033 = .ok (.iload 12, 2) := by decide +kernel
theorem dL_law_1035 : decode cL_law 1035 = .ok (.ldc 55, 2) := by decide +kernel
theorem dL_law_1037 : decode cL_law 1037 = .ok (.if_icmp .ne 7, 3) := by decide +kernel
theorem dL_law_1040 : decode cL_law 1040 = .ok (.iconst 1, 1) := by decide +kernel
theorem dL_law_1041 : decode cL_law 1041 = .ok (.goto 33, 3) := by decide +kernel
theorem dL_law_1044 : decode cL_law 1044 = .ok (.iconst 0, 1) := by decide +kernel
theorem dL_law_1045 : decode cL_law 1045 = .ok (.goto 29, 3) := by decide +kernel
theorem dL_law_1048 : decode cL_law 1048 = .ok (.iload 12, 2) := by decide +kernel
theorem dL_law_1050 : decode cL_law 1050 = .ok (.ifCond .le 23, 3) := by decide +kernel
theorem dL_law_1053 : decode cL_law 1053 = .ok (.iload 12, 2) := by decide +kernel
theorem dL_law_1055 : decode cL_law 1055 = .ok (.iconst 4, 1) := by decide +kernel
theorem dL_law_1056 : decode cL_law 1056 = .ok (.if_icmp .ge 17, 3) := by decide +kernel
theorem dL_law_1059 : decode cL_law 1059 = .ok (.aload_n 1, 1) := by decide +kernel
theorem dL_law_1060 : decode cL_law 1060 = .ok (.iload 10, 2) := by decide +kernel
theorem dL_law_1062 : decode cL_law 1062 = .ok (.invokevirtual 88, 3) := by decide +kernel
theorem dL_law_1065 : decode cL_law 1065 = .ok (.iconst (-1), 1) := by decide +kernel
theorem dL_law_1066 : decode cL_law 1066 = .ok (.if_icmp .ne 7, 3) := by decide +kernel
theorem dL_law_1069 : decode cL_law 1069 = .ok (.iconst 1, 1) := by decide +kernel
theorem dL_law_1070 : decode cL_law 1070 = .ok (.goto 4, 3) := by decide +kernel
theorem dL_law_1073 : decode cL_law 1073 = .ok (.iconst 0, 1) := by decide +kernel
theorem dL_law_1074 : decode cL_law 1074 = .ok (.istore_n 2, 1) := by decide +kernel
theorem dL_law_1075 : decode cL_law 1075 = .ok (.goto 212, 3) := by decide +kernel
theorem dL_law_1078 : decode cL_law 1078 = .ok (.iload 7, 2) := by decide +kernel
theorem dL_law_1080 : decode cL_law 1080 = .ok (.bipush 12, 2) := by decide +kernel
theorem dL_law_1082 : decode cL_law 1082 = .ok (.if_icmp .ne 156, 3) := by decide +kernel
theorem dL_law_1085 : decode cL_law 1085 = .ok (.aload_n 1, 1) := by decide +kernel
theorem dL_law_1086 : decode cL_law 1086 = .ok (.iload 10, 2) := by decide +kernel
theorem dL_law_1088 : decode cL_law 1088 = .ok (.invokevirtual 88, 3) := by decide +kernel
theorem dL_law_1091 : decode cL_law 1091 = .ok (.istore 11, 2) := by decide +kernel
theorem dL_law_1093 : decode cL_law 1093 = .ok (.aload_n 1, 1) := by decide +kernel
theorem dL_law_1094 : decode cL_law 1094 = .ok (.iconst 5, 1) := by decide +kernel
theorem dL_law_1095 : decode cL_law 1095 = .ok (.iload 10, 2) := by decide +kernel
theorem dL_law_1097 : decode cL_law 1097 = .ok (.iconst 0, 1) := by decide +kernel
theorem dL_law_1098 : decode cL_law 1098 = .ok (.iconst 0, 1) := by decide +kernel
theorem dL_law_1099 : decode cL_law 1099 = .ok (.iconst 0, 1) := by decide +kernel
theorem dL_law_1100 : decode cL_law 1100 = .ok (.invokestatic 85, 3) := by decide +kernel
theorem dL_law_1103 : decode cL_law 1103 = .ok (.istore 12, 2) := by decide +kernel
theorem dL_law_1105 : decode cL_law 1105 = .ok (.iload 6, 2) := by decide +kernel
theorem dL_law_1107 : decode cL_law 1107 = .ok (.bipush 6, 2) := by decide +kernel
theorem dL_law_1109 : decode cL_law 1109 = .ok (.ishr, 1) := by decide +kernel
theorem dL_law_1110 : decode cL_law 1110 = .ok (.iconst 1, 1) := by decide +kernel
theorem dL_law_1111 : decode cL_law 1111 = .ok (.iand, 1) := by decide +kernel
theorem dL_law_1112 : decode cL_law 1112 = .ok (.iconst 1, 1) := by decide +kernel
theorem dL_law_1113 : decode cL_law 1113 = .ok (.if_icmp .ne 7, 3) := by decide +kernel
theorem dL_law_1116 : decode cL_law 1116 = .ok (.iconst 1, 1) := by decide +kernel
theorem dL_law_1117 : decode cL_law 1117 = .ok (.goto 4, 3) := by decide +kernel
theorem dL_law_1120 : decode cL_law 1120 = .ok (.iconst 0, 1) := by decide +kernel
theorem dL_law_1121 : decode cL_law 1121 = .ok (.istore 13, 2) := by decide +kernel
theorem dL_law_1123 : decode cL_law 1123 = .ok (.iload 11, 2) := by decide +kernel
theorem dL_law_1125 : decode cL_law 1125 = .ok (.iconst (-1), 1) := by decide +kernel
theorem dL_law_1126 : decode cL_law 1126 = .ok (.if_icmp .ne 13, 3) := by decide +kernel
theorem dL_law_1129 : decode cL_law 1129 = .ok (.iload 12, 2) := by decide +kernel
theorem dL_law_1131 : decode cL_law 1131 = .ok (.ldc 55, 2) := by decide +kernel
theorem dL_law_1133 : decode cL_law 1133 = .ok (.if_icmp .ne 75, 3) := by decide +kernel
theorem dL_law_1136 : decode cL_law 1136 = .ok (.goto 15, 3) := by decide +kernel
theorem dL_law_1139 : decode cL_law 1139 = .ok (.iload 12, 2) := by decide +kernel
theorem dL_law_1141 : decode cL_law 1141 = .ok (.aload_n 1, 1) := by decide +kernel
theorem dL_law_1142 : decode cL_law 1142 = .ok (.invokevirtual 99, 3) := by decide +kernel
theorem dL_law_1145 : decode cL_law 1145 = .ok (.bipush 10, 2) := by decide +kernel
theorem dL_law_1147 : decode cL_law 1147 = .ok (.iadd, 1) := by decide +kernel
theorem dL_law_1148 : decode cL_law 1148 = .ok (.if_icmp .ne 60, 3) := by decide +kernel
theorem dL_law_1151 : decode cL_law 1151 = .ok (.aload_n 1, 1) := by decide +kernel
theorem dL_law_1152 : decode cL_law 1152 = .ok (.iload 10, 2) := by decide +kernel
theorem dL_law_1154 : decode cL_law 1154 = .ok (.iload 13, 2) := by decide +kernel
theorem dL_law_1156 : decode cL_law 1156 = .ok (.invokevirtual 127, 3) := by decide +kernel
theorem dL_law_1159 : decode cL_law 1159 = .ok (.iload 11, 2) := by decide +kernel
theorem dL_law_1161 : decode cL_law 1161 = .ok (.iconst (-1), 1) := by decide +kernel
theorem dL_law_1162 : decode cL_law 1162 = .ok (.if_icmp .le 7, 3) := by decide +kernel
theorem dL_law_1165 : decode cL_law 1165 = .ok (.iconst 1, 1) := by decide +kernel
theorem dL_law_1166 : decode cL_law 1166 = .ok (.goto 4, 3) := by decide +kernel
theorem dL_law_1169 : decode cL_law 1169 = .ok (.iconst 0, 1) := by decide +kernel
theorem dL_law_1170 : decode cL_law 1170 = .ok (.if_icmp .ne 38, 3) := by decide +kernel
theorem dL_law_1173 : decode cL_law 1173 = .ok (.iload 13, 2) := by decide +kernel
theorem dL_law_1175 : decode cL_law 1175 = .ok (.ifCond .ne 13, 3) := by decide +kernel
theorem dL_law_1178 : decode cL_law 1178 = .ok (.aload_n 1, 1) := by decide +kernel
theorem dL_law_1179 : decode cL_law 1179 = .ok (.iload 10, 2) := by decide +kernel
theorem dL_law_1181 : decode cL_law 1181 = .ok (.invokevirtual 88, 3) := by decide +kernel
theorem dL_law_1184 : decode cL_law 1184 = .ok (.iconst (-1), 1) := by decide +kernel
theorem dL_law_1185 : decode cL_law 1185 = .ok (.if_icmp .ne 23, 3) := by decide +kernel
theorem dL_law_1188 : decode cL_law 1188 = .ok (.iload 13, 2) := by decide +kernel
theorem dL_law_1190 : decode cL_law 1190 = .ok (.ifCond .eq 14, 3) := by decide +kernel
theorem dL_law_1193 : decode cL_law 1193 = .ok (.aload_n 1, 1) := by decide +kernel
theorem dL_law_1194 : decode cL_law 1194 = .ok (.iload 10, 2) := by decide +kernel
theorem dL_law_1196 : decode cL_law 1196 = .ok (.invokevirtual 88, 3) := by decide +kernel
theorem dL_law_1199 : decode cL_law 1199 = .ok (.iload 11, 2) := by decide +kernel
theorem dL_law_1201 : decode cL_law 1201 = .ok (.if_icmp .ne 7, 3) := by decide +kernel
theorem dL_law_1204 : decode cL_law 1204 = .ok (.iconst 1, 1) := by decide +kernel
theorem dL_law_1205 : decode cL_law 1205 = .ok (.goto 4, 3) := by decide +kernel
theorem dL_law_1208 : decode cL_law 1208 = .ok (.iconst 0, 1) := by decide +kernel
theorem dL_law_1209 : decode cL_law 1209 = .ok (.istore_n 2, 1) := by decide +kernel
theorem dL_law_1210 : decode cL_law 1210 = .ok (.iload_n 2, 1) := by decide +kernel
theorem dL_law_1211 : decode cL_law 1211 = .ok (.ifCond .eq 22, 3) := by decide +kernel
theorem dL_law_1214 : decode cL_law 1214 = .ok (.iload 13, 2) := by decide +kernel
theorem dL_law_1216 : decode cL_law 1216 = .ok (.ifCond .ne 13, 3) := by decide +kernel
theorem dL_law_1219 : decode cL_law 1219 = .ok (.aload_n 1, 1) := by decide +kernel
theorem dL_law_1220 : decode cL_law 1220 = .ok (.iload 10, 2) := by decide +kernel
theorem dL_law_1222 : decode cL_law 1222 = .ok (.iconst 1, 1) := by decide +kernel
theorem dL_law_1223 : decode cL_law 1223 = .ok (.invokevirtual 127, 3) := by decide +kernel
theorem dL_law_1226 : decode cL_law 1226 = .ok (.ifCond .ne 7, 3) := by decide +kernel
theorem dL_law_1229 : decode cL_law 1229 = .ok (.iconst 1, 1) := by decide +kernel
theorem dL_law_1230 : decode cL_law 1230 = .ok (.goto 4, 3) := by decide +kernel
theorem dL_law_1233 : decode cL_law 1233 = .ok (.iconst 0, 1) := by decide +kernel
theorem dL_law_1234 : decode cL_law 1234 = .ok (.istore_n 2, 1) := by decide +kernel
theorem dL_law_1235 : decode cL_law 1235 = .ok (.goto 52, 3) := by decide +kernel
theorem dL_law_1238 : decode cL_law 1238 = .ok (.aload_n 1, 1) := by decide +kernel
theorem dL_law_1239 : decode cL_law 1239 = .ok (.invokevirtual 99, 3) := by decide +kernel
theorem dL_law_1242 : decode cL_law 1242 = .ok (.istore 11, 2) := by decide +kernel
theorem dL_law_1244 : decode cL_law 1244 = .ok (.iconst 1, 1) := by decide +kernel
theorem dL_law_1245 : decode cL_law 1245 = .ok (.iload 6, 2) := by decide +kernel
theorem dL_law_1247 : decode cL_law 1247 = .ok (.iconst 3, 1) := by decide +kernel
theorem dL_law_1248 : decode cL_law 1248 = .ok (.ishr, 1) := by decide +kernel
theorem dL_law_1249 : decode cL_law 1249 = .ok (.bipush 6, 2) := by decide +kernel
theorem dL_law_1251 : decode cL_law 1251 = .ok (.irem, 1) := by decide +kernel
theorem dL_law_1252 : decode cL_law 1252 = .ok (.iadd, 1) := by decide +kernel
theorem dL_law_1253 : decode cL_law 1253 = .ok (.istore 12, 2) := by decide +kernel
theorem dL_law_1255 : decode cL_law 1255 = .ok (.aload_n 1, 1) := by decide +kernel
theorem dL_law_1256 : decode cL_law 1256 = .ok (.iload 12, 2) := by decide +kernel
theorem dL_law_1258 : decode cL_law 1258 = .ok (.invokevirtual 131, 3) := by decide +kernel
theorem dL_law_1261 : decode cL_law 1261 = .ok (.iload 11, 2) := by decide +kernel
theorem dL_law_1263 : decode cL_law 1263 = .ok (.iload 12, 2) := by decide +kernel
theorem dL_law_1265 : decode cL_law 1265 = .ok (.iadd, 1) := by decide +kernel
theorem dL_law_1266 : decode cL_law 1266 = .ok (.if_icmp .ne 19, 3) := by decide +kernel
theorem dL_law_1269 : decode cL_law 1269 = .ok (.aload_n 1, 1) := by decide +kernel
theorem dL_law_1270 : decode cL_law 1270 = .ok (.invokevirtual 99, 3) := by decide +kernel
theorem dL_law_1273 : decode cL_law 1273 = .ok (.iload 11, 2) := by decide +kernel
theorem dL_law_1275 : decode cL_law 1275 = .ok (.iload 12, 2) := by decide +kernel
theorem dL_law_1277 : decode cL_law 1277 = .ok (.iadd, 1) := by decide +kernel
theorem dL_law_1278 : decode cL_law 1278 = .ok (.if_icmp .ne 7, 3) := by decide +kernel
theorem dL_law_1281 : decode cL_law 1281 = .ok (.iconst 1, 1) := by decide +kernel
theorem dL_law_1282 : decode cL_law 1282 = .ok (.goto 4, 3) := by decide +kernel
theorem dL_law_1285 : decode cL_law 1285 = .ok (.iconst 0, 1) := by decide +kernel
theorem dL_law_1286 : decode cL_law 1286 = .ok (.istore_n 2, 1) := by decide +kernel
theorem dL_law_1287 : decode cL_law 1287 = .ok (.iload_n 2, 1) := by decide +kernel
theorem dL_law_1288 : decode cL_law 1288 = .ok (.ifCond .eq 44, 3) := by decide +kernel
theorem dL_law_1291 : decode cL_law 1291 = .ok (.aload_n 1, 1) := by decide +kernel
theorem dL_law_1292 : decode cL_law 1292 = .ok (.invokestatic 134, 3) := by decide +kernel
theorem dL_law_1295 : decode cL_law 1295 = .ok (.ifCond .eq 37, 3) := by decide +kernel
theorem dL_law_1298 : decode cL_law 1298 = .ok (.aload_n 1, 1) := by decide +kernel
theorem dL_law_1299 : decode cL_law 1299 = .ok (.invokevirtual 91, 3) := by decide +kernel
theorem dL_law_1302 : decode cL_law 1302 = .ok (.ifCond .eq 17, 3) := by decide +kernel
theorem dL_law_1305 : decode cL_law 1305 = .ok (.aload_n 1, 1) := by decide +kernel
theorem dL_law_1306 : decode cL_law 1306 = .ok (.iload 6, 2) := by decide +kernel
theorem dL_law_1308 : decode cL_law 1308 = .ok (.aload_n 1, 1) := by decide +kernel
theorem dL_law_1309 : decode cL_law 1309 = .ok (.invokevirtual 91, 3) := by decide +kernel
theorem dL_law_1312 : decode cL_law 1312 = .ok (.irem, 1) := by decide +kernel
theorem dL_law_1313 : decode cL_law 1313 = .ok (.invokestatic 138, 3) := by decide +kernel
theorem dL_law_1316 : decode cL_law 1316 = .ok (.ifCond .eq 16, 3) := by decide +kernel
theorem dL_law_1319 : decode cL_law 1319 = .ok (.aload_n 1, 1) := by decide +kernel
theorem dL_law_1320 : decode cL_law 1320 = .ok (.invokevirtual 91, 3) := by decide +kernel
theorem dL_law_1323 : decode cL_law 1323 = .ok (.bipush 10, 2) := by decide +kernel
theorem dL_law_1325 : decode cL_law 1325 = .ok (.if_icmp .gt 7, 3) := by decide +kernel
theorem dL_law_1328 : decode cL_law 1328 = .ok (.iconst 1, 1) := by decide +kernel
theorem dL_law_1329 : decode cL_law 1329 = .ok (.goto 4, 3) := by decide +kernel
theorem dL_law_1332 : decode cL_law 1332 = .ok (.iconst 0, 1) := by decide +kernel
theorem dL_law_1333 : decode cL_law 1333 = .ok (.istore_n 2, 1) := by decide +kernel
theorem dL_law_1334 : decode cL_law 1334 = .ok (.iload_n 2, 1) := by decide +kernel
theorem dL_law_1335 : decode cL_law 1335 = .ok (.ifCond .eq 76, 3) := by decide +kernel
theorem dL_law_1338 : decode cL_law 1338 = .ok (.aload_n 1, 1) := by decide +kernel
theorem dL_law_1339 : decode cL_law 1339 = .ok (.invokevirtual 91, 3) := by decide +kernel
theorem dL_law_1342 : decode cL_law 1342 = .ok (.ifCond .le 69, 3) := by decide +kernel
theorem dL_law_1345 : decode cL_law 1345 = .ok (.iload 4, 2) := by decide +kernel
theorem dL_law_1347 : decode cL_law 1347 = .ok (.iconst 5, 1) := by decide +kernel
theorem dL_law_1348 : decode cL_law 1348 = .ok (.irem, 1) := by decide +kernel
theorem dL_law_1349 : decode cL_law 1349 = .ok (.iconst 4, 1) := by decide +kernel
theorem dL_law_1350 : decode cL_law 1350 = .ok (.if_icmp .ne 61, 3) := by decide +kernel
theorem dL_law_1353 : decode cL_law 1353 = .ok (.iload 6, 2) := by decide +kernel
theorem dL_law_1355 : decode cL_law 1355 = .ok (.iconst 3, 1) := by decide +kernel
theorem dL_law_1356 : decode cL_law 1356 = .ok (.ishr, 1) := by decide +kernel
theorem dL_law_1357 : decode cL_law 1357 = .ok (.aload_n 1, 1) := by decide +kernel
theorem dL_law_1358 : decode cL_law 1358 = .ok (.invokevirtual 91, 3) := by decide +kernel
theorem dL_law_1361 : decode cL_law 1361 = .ok (.irem, 1) := by decide +kernel
theorem dL_law_1362 : decode cL_law 1362 = .ok (.istore 11, 2) := by decide +kernel
theorem dL_law_1364 : decode cL_law 1364 = .ok (.aload_n 1, 1) := by decide +kernel
theorem dL_law_1365 : decode cL_law 1365 = .ok (.iload 11, 2) := by decide +kernel
theorem dL_law_1367 : decode cL_law 1367 = .ok (.iconst 1, 1) := by decide +kernel
theorem dL_law_1368 : decode cL_law 1368 = .ok (.iload 6, 2) := by decide +kernel
theorem dL_law_1370 : decode cL_law 1370 = .ok (.bipush 7, 2) := by decide +kernel
theorem dL_law_1372 : decode cL_law 1372 = .ok (.ishr, 1) := by decide +kernel
theorem dL_law_1373 : decode cL_law 1373 = .ok (.aload_n 1, 1) := by decide +kernel
theorem dL_law_1374 : decode cL_law 1374 = .ok (.iload 11, 2) := by decide +kernel
theorem dL_law_1376 : decode cL_law 1376 = .ok (.invokevirtual 69, 3) := by decide +kernel
theorem dL_law_1379 : decode cL_law 1379 = .ok (.irem, 1) := by decide +kernel
theorem dL_law_1380 : decode cL_law 1380 = .ok (.iadd, 1) := by decide +kernel
theorem dL_law_1381 : decode cL_law 1381 = .ok (.invokestatic 142, 3) := by decide +kernel
theorem dL_law_1384 : decode cL_law 1384 = .ok (.ifCond .eq 25, 3) := by decide +kernel
theorem dL_law_1387 : decode cL_law 1387 = .ok (.aload_n 1, 1) := by decide +kernel
theorem dL_law_1388 : decode cL_law 1388 = .ok (.iconst 0, 1) := by decide +kernel
theorem dL_law_1389 : decode cL_law 1389 = .ok (.sipush (-999), 3) := by decide +kernel
theorem dL_law_1392 : decode cL_law 1392 = .ok (.sipush 999, 3) := by decide +kernel
theorem dL_law_1395 : decode cL_law 1395 = .ok (.invokevirtual 145, 3) := by decide +kernel
theorem dL_law_1398 : decode cL_law 1398 = .ok (.aload_n 1, 1) := by decide +kernel
theorem dL_law_1399 : decode cL_law 1399 = .ok (.invokevirtual 91, 3) := by decide +kernel
theorem dL_law_1402 : decode cL_law 1402 = .ok (.if_icmp .gt 7, 3) := by decide +kernel
theorem dL_law_1405 : decode cL_law 1405 = .ok (.iconst 1, 1) := by decide +kernel
theorem dL_law_1406 : decode cL_law 1406 = .ok (.goto 4, 3) := by decide +kernel
theorem dL_law_1409 : decode cL_law 1409 = .ok (.iconst 0, 1) := by decide +kernel
theorem dL_law_1410 : decode cL_law 1410 = .ok (.istore_n 2, 1) := by decide +kernel
theorem dL_law_1411 : decode cL_law 1411 = .ok (.iinc 4 1, 3) := by decide +kernel
theorem dL_law_1414 : decode cL_law 1414 = .ok (.goto (-1054), 3) := by decide +kernel
theorem dL_law_1417 : decode cL_law 1417 = .ok (.iload_n 2, 1) := by decide +kernel
theorem dL_law_1418 : decode cL_law 1418 = .ok (.ireturn, 1) := by decide +kernel
theorem e_L_law_1333 (d : Nat) {k360 : Int → Int → Int → Int → Mem → Option R2} (hk360 : ∀ {l1 l2 l3 l4 : Int} {m : Mem} {v : Int} {m' : Mem}, k360 l1 l2 l3 l4 m = some (v, m') → Ex (d + 49) fm_L_law 360 [(7, 0), (21, l1), (0, l2), (0, l3), (0, l4), (3, 0), (3, 0), (3, 0), (3, 0), (3, 0), (3, 0), (3, 0), (3, 0), (3, 0), (3, 0)] [] m (.inl (0, v)) m') {l1 l3 l4 l6 s0 : Int} {m : Mem} {v : Int} {m' : Mem} (h : L_law_1333 k360 l1 l3 l4 l6 s0 m = some (v, m')) : Ex (d + 49) fm_L_law 1333 [(7, 0), (21, l1), (3, 0), (0, l3), (0, l4), (3, 0), (0, l6), (3, 0), (3, 0), (3, 0), (3, 0), (3, 0), (3, 0), (3, 0), (3, 0)] [(0, s0)] m (.inl (0, v)) m' := by
  unfold L_law_1333 at h
  refine x_istore_n (ls2 := [(7, 0), (21, l1), (0, s0), (0, l3), (0, l4), (3, 0), (0, l6), (3, 0), (3, 0), (3, 0), (3, 0), (3, 0), (3, 0), (3, 0), (3, 0)]) dL_law_1333 rfl (Nat.le_of_ble_eq_true rfl) rfl (?_ : Ex _ _ 1334 _ _ _ _ _)
  refine x_iload_n dL_law_1334 rfl rfl (?_ : Ex _ _ 1335 _ _ _ _ _)
  rcases ite_some h with ⟨b1, h⟩ | ⟨b1, h⟩
  · refine x_if_eq (tgt := 1411) dL_law_1335 rfl b1 (?_ : Ex _ _ 1411 _ _ _ _ _)
    obtain ⟨c2, h⟩ := chk_some h
    refine x_iinc (ls2 := [(7, 0), (21, l1), (0, s0), (0, l3), (0, (l4 + 1)), (3, 0), (0, l6), (3, 0), (3, 0), (3, 0), (3, 0), (3, 0), (3, 0), (3, 0), (3, 0)]) dL_law_1411 rfl c2 rfl (?_ : Ex _ _ 1414 _ _ _ _ _)
    refine x_goto (tgt := 360) dL_law_1414 rfl (?_ : Ex _ _ 360 _ _ _ _ _)
    refine Ex.wk (ls2 := [(7, 0), (21, l1), (0, s0), (0, l3), (0, (l4 + 1)), (3, 0), (3, 0), (3, 0), (3, 0), (3, 0), (3, 0), (3, 0), (3, 0), (3, 0), (3, 0)]) ⟨Or.inr rfl, Or.inr rfl, Or.inr rfl, Or.inr rfl, Or.inr rfl, Or.inl rfl, Or.inl rfl, Or.inl rfl, Or.inl rfl, Or.inl rfl, Or.inl rfl, Or.inl rfl, Or.inl rfl, Or.inl rfl, Or.inl rfl, trivial⟩ ?_
    exact hk360 h
  · refine x_if_eqN dL_law_1335 (by decide) b1 (?_ : Ex _ _ 1338 _ _ _ _ _)
    refine x_aload_n dL_law_1338 rfl rfl (Or.inr (by decide)) (?_ : Ex _ _ 1339 _ _ _ _ _)
    obtain ⟨c3, h⟩ := chk_some h
    obtain ⟨v4, m5, g6, h⟩ := cal_some h
    refine cV0 (e_X11_workflows (d + 48) g6) (contN (by decide) (?_ : Ex _ _ 1342 _ _ _ _ _)) og_X11_workflows rfl ml_RL_91 11 rfl rfl c3 im_X11_workflows se_X11_workflows (Nat.le_of_ble_eq_true rfl) dL_law_1339
    rcases ite_some h with ⟨b7, h⟩ | ⟨b7, h⟩
    · refine x_if_le (tgt := 1411) dL_law_1342 rfl b7 (?_ : Ex _ _ 1411 _ _ _ _ _)
      obtain ⟨c8, h⟩ := chk_some h
      refine x_iinc (ls2 := [(7, 0), (21, l1), (0, s0), (0, l3), (0, (l4 + 1)), (3, 0), (0, l6), (3, 0), (3, 0), (3, 0), (3, 0), (3, 0), (3, 0), (3, 0), (3, 0)]) dL_law_1411 rfl c8 rfl (?_ : Ex _ _ 1414 _ _ _ _ _)
      refine x_goto (tgt := 360) dL_law_1414 rfl (?_ : Ex _ _ 360 _ _ _ _ _)
      refine Ex.wk (ls2 := [(7, 0), (21, l1), (0, s0), (0, l3), (0, (l4 + 1)), (3, 0), (3, 0), (3, 0), (3, 0), (3, 0), (3, 0), (3, 0), (3, 0), (3, 0), (3, 0)]) ⟨Or.inr rfl, Or.inr rfl, Or.inr rfl, Or.inr rfl, Or.inr rfl, Or.inl rfl, Or.inl rfl, Or.inl rfl, Or.inl rfl, Or.inl rfl, Or.inl rfl, Or.inl rfl, Or.inl rfl, Or.inl rfl, Or.inl rfl, trivial⟩ ?_
      exact hk360 h
    · refine x_if_leN dL_law_1342 (by decide) b7 (?_ : Ex _ _ 1345 _ _ _ _ _)
      refine x_iload dL_law_1345 rfl (?_ : Ex _ _ 1347 _ _ _ _ _)
      refine x_iconst dL_law_1347 rfl (by decide) (?_ : Ex _ _ 1348 _ _ _ _ _)
      obtain ⟨c9, h⟩ := chk_some h
      refine x_irem dL_law_1348 c9 (by decide) (?_ : Ex _ _ 1349 _ _ _ _ _)
      refine x_iconst dL_law_1349 rfl (by decide) (?_ : Ex _ _ 1350 _ _ _ _ _)
      rcases ite_some h with ⟨b10, h⟩ | ⟨b10, h⟩
      · refine x_icmp_neN dL_law_1350 (by decide) (fun hh => hh b10) (?_ : Ex _ _ 1353 _ _ _ _ _)
        refine x_iload dL_law_1353 rfl (?_ : Ex _ _ 1355 _ _ _ _ _)
        refine x_iconst dL_law_1355 rfl (by decide) (?_ : Ex _ _ 1356 _ _ _ _ _)
        refine x_ishr dL_law_1356 (?_ : Ex _ _ 1357 _ _ _ _ _)
        refine x_aload_n dL_law_1357 rfl rfl (Or.inr (by decide)) (?_ : Ex _ _ 1358 _ _ _ _ _)
        obtain ⟨v12, m13, g14, h⟩ := cal_some h
        refine cV0 (e_X11_workflows (d + 48) g14) (contN (by decide) (?_ : Ex _ _ 1361 _ _ _ _ _)) og_X11_workflows rfl ml_RL_91 11 rfl rfl c3 im_X11_workflows se_X11_workflows (Nat.le_of_ble_eq_true rfl) dL_law_1358
        obtain ⟨⟨c15, c16⟩, h⟩ := chk_some h
        refine x_irem dL_law_1361 c15 c16 (?_ : Ex _ _ 1362 _ _ _ _ _)
        refine x_istore (ls2 := [(7, 0), (21, l1), (0, s0), (0, l3), (0, l4), (3, 0), (0, l6), (3, 0), (3, 0), (3, 0), (3, 0), (0, ((Int32.ofInt l6 >>> (Int32.ofInt 3 &&& 31)).toInt % v12)), (3, 0), (3, 0), (3, 0)]) dL_law_1362 (Nat.le_of_ble_eq_true rfl) rfl (?_ : Ex _ _ 1364 _ _ _ _ _)
        refine x_aload_n dL_law_1364 rfl rfl (Or.inr (by decide)) (?_ : Ex _ _ 1365 _ _ _ _ _)
        refine x_iload dL_law_1365 rfl (?_ : Ex _ _ 1367 _ _ _ _ _)
        refine x_iconst dL_law_1367 rfl (by decide) (?_ : Ex _ _ 1368 _ _ _ _ _)
        refine x_iload dL_law_1368 rfl (?_ : Ex _ _ 1370 _ _ _ _ _)
        refine x_bipush dL_law_1370 kb_7 (by decide) (?_ : Ex _ _ 1372 _ _ _ _ _)
        refine x_ishr dL_law_1372 (?_ : Ex _ _ 1373 _ _ _ _ _)
        refine x_aload_n dL_law_1373 rfl rfl (Or.inr (by decide)) (?_ : Ex _ _ 1374 _ _ _ _ _)
        refine x_iload dL_law_1374 rfl (?_ : Ex _ _ 1376 _ _ _ _ _)
        obtain ⟨v17, m18, g19, h⟩ := cal0_some h
        refine cV1 (e_X11_runs (d + 46) g19) (cont0 (by decide) (?_ : Ex _ _ 1379 _ _ _ _ _)) og_X11_runs rfl ml_RL_69 11 rfl rfl c3 im_X11_runs se_X11_runs (Nat.le_of_ble_eq_true rfl) dL_law_1376
        obtain ⟨⟨c20, c21⟩, h⟩ := chk_some h
        refine x_irem dL_law_1379 c20 c21 (?_ : Ex _ _ 1380 _ _ _ _ _)
        obtain ⟨c22, h⟩ := chk_some h
        refine x_iadd dL_law_1380 c22 (?_ : Ex _ _ 1381 _ _ _ _ _)
        obtain ⟨v23, m24, g25, h⟩ := cal_some h
        refine cS3 (e_L_isHistory (d + 43) g25) (contN (by decide) (?_ : Ex _ _ 1384 _ _ _ _ _)) og_L_isHistory rfl ml_RL_142 sm_L_isHistory (Nat.le_of_ble_eq_true rfl) dL_law_1381
        rcases ite_some h with ⟨b26, h⟩ | ⟨b26, h⟩
        · refine x_if_eq (tgt := 1409) dL_law_1384 rfl b26 (?_ : Ex _ _ 1409 _ _ _ _ _)
          refine x_iconst dL_law_1409 rfl (by decide) (?_ : Ex _ _ 1410 _ _ _ _ _)
          refine x_istore_n (ls2 := [(7, 0), (21, l1), (0, 0), (0, l3), (0, l4), (3, 0), (0, l6), (3, 0), (3, 0), (3, 0), (3, 0), (0, ((Int32.ofInt l6 >>> (Int32.ofInt 3 &&& 31)).toInt % v12)), (3, 0), (3, 0), (3, 0)]) dL_law_1410 rfl (Nat.le_of_ble_eq_true rfl) rfl (?_ : Ex _ _ 1411 _ _ _ _ _)
          obtain ⟨c27, h⟩ := chk_some h
          refine x_iinc (ls2 := [(7, 0), (21, l1), (0, 0), (0, l3), (0, (l4 + 1)), (3, 0), (0, l6), (3, 0), (3, 0), (3, 0), (3, 0), (0, ((Int32.ofInt l6 >>> (Int32.ofInt 3 &&& 31)).toInt % v12)), (3, 0), (3, 0), (3, 0)]) dL_law_1411 rfl c27 rfl (?_ : Ex _ _ 1414 _ _ _ _ _)
          refine x_goto (tgt := 360) dL_law_1414 rfl (?_ : Ex _ _ 360 _ _ _ _ _)
          refine Ex.wk (ls2 := [(7, 0), (21, l1), (0, 0), (0, l3), (0, (l4 + 1)), (3, 0), (3, 0), (3, 0), (3, 0), (3, 0), (3, 0), (3, 0), (3, 0), (3, 0), (3, 0)]) ⟨Or.inr rfl, Or.inr rfl, Or.inr rfl, Or.inr rfl, Or.inr rfl, Or.inl rfl, Or.inl rfl, Or.inl rfl, Or.inl rfl, Or.inl rfl, Or.inl rfl, Or.inl rfl, Or.inl rfl, Or.inl rfl, Or.inl rfl, trivial⟩ ?_
          exact hk360 h
        · refine x_if_eqN dL_law_1384 (by decide) b26 (?_ : Ex _ _ 1387 _ _ _ _ _)
          refine x_aload_n dL_law_1387 rfl rfl (Or.inr (by decide)) (?_ : Ex _ _ 1388 _ _ _ _ _)
          refine x_iconst dL_law_1388 rfl (by decide) (?_ : Ex _ _ 1389 _ _ _ _ _)
          refine x_sipush dL_law_1389 ks_n999 (by decide) (?_ : Ex _ _ 1392 _ _ _ _ _)
          refine x_sipush dL_law_1392 ks_999 (by decide) (?_ : Ex _ _ 1395 _ _ _ _ _)
          obtain ⟨v28, m29, g30, h⟩ := cal0_some h
          refine cV3 (e_X11_found (d + 46) g30) (cont0 (by decide) (?_ : Ex _ _ 1398 _ _ _ _ _)) og_X11_found rfl ml_RL_145 11 rfl rfl c3 im_X11_found se_X11_found (Nat.le_of_ble_eq_true rfl) dL_law_1395
          refine x_aload_n dL_law_1398 rfl rfl (Or.inr (by decide)) (?_ : Ex _ _ 1399 _ _ _ _ _)
          obtain ⟨v31, m32, g33, h⟩ := cal_some h
          refine cV0 (e_X11_workflows (d + 48) g33) (contN (by decide) (?_ : Ex _ _ 1402 _ _ _ _ _)) og_X11_workflows rfl ml_RL_91 11 rfl rfl c3 im_X11_workflows se_X11_workflows (Nat.le_of_ble_eq_true rfl) dL_law_1399
          rcases ite_some h with ⟨b34, h⟩ | ⟨b34, h⟩
          · refine x_icmp_gt (tgt := 1409) dL_law_1402 rfl b34 (?_ : Ex _ _ 1409 _ _ _ _ _)
            refine x_iconst dL_law_1409 rfl (by decide) (?_ : Ex _ _ 1410 _ _ _ _ _)
            refine x_istore_n (ls2 := [(7, 0), (21, l1), (0, 0), (0, l3), (0, l4), (3, 0), (0, l6), (3, 0), (3, 0), (3, 0), (3, 0), (0, ((Int32.ofInt l6 >>> (Int32.ofInt 3 &&& 31)).toInt % v12)), (3, 0), (3, 0), (3, 0)]) dL_law_1410 rfl (Nat.le_of_ble_eq_true rfl) rfl (?_ : Ex _ _ 1411 _ _ _ _ _)
            obtain ⟨c35, h⟩ := chk_some h
            refine x_iinc (ls2 := [(7, 0), (21, l1), (0, 0), (0, l3), (0, (l4 + 1)), (3, 0), (0, l6), (3, 0), (3, 0), (3, 0), (3, 0), (0, ((Int32.ofInt l6 >>> (Int32.ofInt 3 &&& 31)).toInt % v12)), (3, 0), (3, 0), (3, 0)]) dL_law_1411 rfl c35 rfl (?_ : Ex _ _ 1414 _ _ _ _ _)
            refine x_goto (tgt := 360) dL_law_1414 rfl (?_ : Ex _ _ 360 _ _ _ _ _)
            refine Ex.wk (ls2 := [(7, 0), (21, l1), (0, 0), (0, l3), (0, (l4 + 1)), (3, 0), (3, 0), (3, 0), (3, 0), (3, 0), (3, 0), (3, 0), (3, 0), (3, 0), (3, 0)]) ⟨Or.inr rfl, Or.inr rfl, Or.inr rfl, Or.inr rfl, Or.inr rfl, Or.inl rfl, Or.inl rfl, Or.inl rfl, Or.inl rfl, Or.inl rfl, Or.inl rfl, Or.inl rfl, Or.inl rfl, Or.inl rfl, Or.inl rfl, trivial⟩ ?_
            exact hk360 h
          · refine x_icmp_gtN dL_law_1402 (by decide) b34 (?_ : Ex _ _ 1405 _ _ _ _ _)
            refine x_iconst dL_law_1405 rfl (by decide) (?_ : Ex _ _ 1406 _ _ _ _ _)
            refine x_goto (tgt := 1410) dL_law_1406 rfl (?_ : Ex _ _ 1410 _ _ _ _ _)
            refine x_istore_n (ls2 := [(7, 0), (21, l1), (0, 1), (0, l3), (0, l4), (3, 0), (0, l6), (3, 0), (3, 0), (3, 0), (3, 0), (0, ((Int32.ofInt l6 >>> (Int32.ofInt 3 &&& 31)).toInt % v12)), (3, 0), (3, 0), (3, 0)]) dL_law_1410 rfl (Nat.le_of_ble_eq_true rfl) rfl (?_ : Ex _ _ 1411 _ _ _ _ _)
            obtain ⟨c36, h⟩ := chk_some h
            refine x_iinc (ls2 := [(7, 0), (21, l1), (0, 1), (0, l3), (0, (l4 + 1)), (3, 0), (0, l6), (3, 0), (3, 0), (3, 0), (3, 0), (0, ((Int32.ofInt l6 >>> (Int32.ofInt 3 &&& 31)).toInt % v12)), (3, 0), (3, 0), (3, 0)]) dL_law_1411 rfl c36 rfl (?_ : Ex _ _ 1414 _ _ _ _ _)
            refine x_goto (tgt := 360) dL_law_1414 rfl (?_ : Ex _ _ 360 _ _ _ _ _)
            refine Ex.wk (ls2 := [(7, 0), (21, l1), (0, 1), (0, l3), (0, (l4 + 1)), (3, 0), (3, 0), (3, 0), (3, 0), (3, 0), (3, 0), (3, 0), (3, 0), (3, 0), (3, 0)]) ⟨Or.inr rfl, Or.inr rfl, Or.inr rfl, Or.inr rfl, Or.inr rfl, Or.inl rfl, Or.inl rfl, Or.inl rfl, Or.inl rfl, Or.inl rfl, Or.inl rfl, Or.inl rfl, Or.inl rfl, Or.inl rfl, Or.inl rfl, trivial⟩ ?_
            exact hk360 h
      · refine x_icmp_ne (tgt := 1411) dL_law_1350 rfl b10 (?_ : Ex _ _ 1411 _ _ _ _ _)
        obtain ⟨c11, h⟩ := chk_some h
        refine x_iinc (ls2 := [(7, 0), (21, l1), (0, s0), (0, l3), (0, (l4 + 1)), (3, 0), (0, l6), (3, 0), (3, 0), (3, 0), (3, 0), (3, 0), (3, 0), (3, 0), (3, 0)]) dL_law_1411 rfl c11 rfl (?_ : Ex _ _ 1414 _ _ _ _ _)
        refine x_goto (tgt := 360) dL_law_1414 rfl (?_ : Ex _ _ 360 _ _ _ _ _)
        refine Ex.wk (ls2 := [(7, 0), (21, l1), (0, s0), (0, l3), (0, (l4 + 1)), (3, 0), (3, 0), (3, 0), (3, 0), (3, 0), (3, 0), (3, 0), (3, 0), (3, 0), (3, 0)]) ⟨Or.inr rfl, Or.inr rfl, Or.inr rfl, Or.inr rfl, Or.inr rfl, Or.inl rfl, Or.inl rfl, Or.inl rfl, Or.inl rfl, Or.inl rfl, Or.inl rfl, Or.inl rfl, Or.inl rfl, Or.inl rfl, Or.inl rfl, trivial⟩ ?_
        exact hk360 h
theorem e_L_law_1319 (d : Nat) {k360 : Int → Int → Int → Int → Mem → Option R2} (hk360 : ∀ {l1 l2 l3 l4 : Int} {m : Mem} {v : Int} {m' : Mem}, k360 l1 l2 l3 l4 m = some (v, m') → Ex (d + 49) fm_L_law 360 [(7, 0), (21, l1), (0, l2), (0, l3), (0, l4), (3, 0), (3, 0), (3, 0), (3, 0), (3, 0), (3, 0), (3, 0), (3, 0), (3, 0), (3, 0)] [] m (.inl (0, v)) m') {l1 l3 l4 l6 : Int} {m : Mem} {v : Int} {m' : Mem} (h : L_law_1319 k360 l1 l3 l4 l6 m = some (v, m')) : Ex (d + 49) fm_L_law 1319 [(7, 0), (21, l1), (3, 0), (0, l3), (0, l4), (3, 0), (0, l6), (3, 0), (3, 0), (3, 0), (3, 0), (3, 0), (3, 0), (3, 0), (3, 0)] [] m (.inl (0, v)) m' := by
  unfold L_law_1319 at h
  refine x_aload_n dL_law_1319 rfl rfl (Or.inr (by decide)) (?_ : Ex _ _ 1320 _ _ _ _ _)
  obtain ⟨c1, h⟩ := chk_some h
  obtain ⟨v2, m3, g4, h⟩ := cal_some h
  refine cV0 (e_X11_workflows (d + 48) g4) (contN (by decide) (?_ : Ex _ _ 1323 _ _ _ _ _)) og_X11_workflows rfl ml_RL_91 11 rfl rfl c1 im_X11_workflows se_X11_workflows (Nat.le_of_ble_eq_true rfl) dL_law_1320
  refine x_bipush dL_law_1323 kb_10 (by decide) (?_ : Ex _ _ 1325 _ _ _ _ _)
  rcases ite_some h with ⟨b5, h⟩ | ⟨b5, h⟩
  · refine x_icmp_gt (tgt := 1332) dL_law_1325 rfl b5 (?_ : Ex _ _ 1332 _ _ _ _ _)
    refine x_iconst dL_law_1332 rfl (by decide) (?_ : Ex _ _ 1333 _ _ _ _ _)
    exact e_L_law_1333 d hk360 h
  · refine x_icmp_gtN dL_law_1325 (by decide) b5 (?_ : Ex _ _ 1328 _ _ _ _ _)
    refine x_iconst dL_law_1328 rfl (by decide) (?_ : Ex _ _ 1329 _ _ _ _ _)
    refine x_goto (tgt := 1333) dL_law_1329 rfl (?_ : Ex _ _ 1333 _ _ _ _ _)
    exact e_L_law_1333 d hk360 h
theorem e_L_law_1287 (d : Nat) {k360 : Int → Int → Int → Int → Mem → Option R2} (hk360 : ∀ {l1 l2 l3 l4 : Int} {m : Mem} {v : Int} {m' : Mem}, k360 l1 l2 l3 l4 m = some (v, m') → Ex (d + 49) fm_L_law 360 [(7, 0), (21, l1), (0, l2), (0, l3), (0, l4), (3, 0), (3, 0), (3, 0), (3, 0), (3, 0), (3, 0), (3, 0), (3, 0), (3, 0), (3, 0)] [] m (.inl (0, v)) m') {l1 l2 l3 l4 l6 : Int} {m : Mem} {v : Int} {m' : Mem} (h : L_law_1287 k360 l1 l2 l3 l4 l6 m = some (v, m')) : Ex (d + 49) fm_L_law 1287 [(7, 0), (21, l1), (0, l2), (0, l3), (0, l4), (3, 0), (0, l6), (3, 0), (3, 0), (3, 0), (3, 0), (3, 0), (3, 0), (3, 0), (3, 0)] [] m (.inl (0, v)) m' := by
  unfold L_law_1287 at h
  refine x_iload_n dL_law_1287 rfl rfl (?_ : Ex _ _ 1288 _ _ _ _ _)
  rcases ite_some h with ⟨b1, h⟩ | ⟨b1, h⟩
  · refine x_if_eq (tgt := 1332) dL_law_1288 rfl b1 (?_ : Ex _ _ 1332 _ _ _ _ _)
    refine x_iconst dL_law_1332 rfl (by decide) (?_ : Ex _ _ 1333 _ _ _ _ _)
    refine Ex.wk (ls2 := [(7, 0), (21, l1), (3, 0), (0, l3), (0, l4), (3, 0), (0, l6), (3, 0), (3, 0), (3, 0), (3, 0), (3, 0), (3, 0), (3, 0), (3, 0)]) ⟨Or.inr rfl, Or.inr rfl, Or.inl rfl, Or.inr rfl, Or.inr rfl, Or.inl rfl, Or.inr rfl, Or.inl rfl, Or.inl rfl, Or.inl rfl, Or.inl rfl, Or.inl rfl, Or.inl rfl, Or.inl rfl, Or.inl rfl, trivial⟩ ?_
    exact e_L_law_1333 d hk360 h
  · refine x_if_eqN dL_law_1288 (by decide) b1 (?_ : Ex _ _ 1291 _ _ _ _ _)
    refine x_aload_n dL_law_1291 rfl rfl (Or.inr (by decide)) (?_ : Ex _ _ 1292 _ _ _ _ _)
    obtain ⟨v2, m3, g4, h⟩ := cal_some h
    refine cS1 (e_L_areWorkers (d + 44) g4) (contN (by decide) (?_ : Ex _ _ 1295 _ _ _ _ _)) og_L_areWorkers rfl ml_RL_134 sm_L_areWorkers (Nat.le_of_ble_eq_true rfl) dL_law_1292
    rcases ite_some h with ⟨b5, h⟩ | ⟨b5, h⟩
    · refine x_if_eq (tgt := 1332) dL_law_1295 rfl b5 (?_ : Ex _ _ 1332 _ _ _ _ _)
      refine x_iconst dL_law_1332 rfl (by decide) (?_ : Ex _ _ 1333 _ _ _ _ _)
      refine Ex.wk (ls2 := [(7, 0), (21, l1), (3, 0), (0, l3), (0, l4), (3, 0), (0, l6), (3, 0), (3, 0), (3, 0), (3, 0), (3, 0), (3, 0), (3, 0), (3, 0)]) ⟨Or.inr rfl, Or.inr rfl, Or.inl rfl, Or.inr rfl, Or.inr rfl, Or.inl rfl, Or.inr rfl, Or.inl rfl, Or.inl rfl, Or.inl rfl, Or.inl rfl, Or.inl rfl, Or.inl rfl, Or.inl rfl, Or.inl rfl, trivial⟩ ?_
      exact e_L_law_1333 d hk360 h
    · refine x_if_eqN dL_law_1295 (by decide) b5 (?_ : Ex _ _ 1298 _ _ _ _ _)
      refine x_aload_n dL_law_1298 rfl rfl (Or.inr (by decide)) (?_ : Ex _ _ 1299 _ _ _ _ _)
      obtain ⟨c6, h⟩ := chk_some h
      obtain ⟨v7, m8, g9, h⟩ := cal_some h
      refine cV0 (e_X11_workflows (d + 48) g9) (contN (by decide) (?_ : Ex _ _ 1302 _ _ _ _ _)) og_X11_workflows rfl ml_RL_91 11 rfl rfl c6 im_X11_workflows se_X11_workflows (Nat.le_of_ble_eq_true rfl) dL_law_1299
      rcases ite_some h with ⟨b10, h⟩ | ⟨b10, h⟩
      · refine x_if_eq (tgt := 1319) dL_law_1302 rfl b10 (?_ : Ex _ _ 1319 _ _ _ _ _)
        refine Ex.wk (ls2 := [(7, 0), (21, l1), (3, 0), (0, l3), (0, l4), (3, 0), (0, l6), (3, 0), (3, 0), (3, 0), (3, 0), (3, 0), (3, 0), (3, 0), (3, 0)]) ⟨Or.inr rfl, Or.inr rfl, Or.inl rfl, Or.inr rfl, Or.inr rfl, Or.inl rfl, Or.inr rfl, Or.inl rfl, Or.inl rfl, Or.inl rfl, Or.inl rfl, Or.inl rfl, Or.inl rfl, Or.inl rfl, Or.inl rfl, trivial⟩ ?_
        exact e_L_law_1319 d hk360 h
      · refine x_if_eqN dL_law_1302 (by decide) b10 (?_ : Ex _ _ 1305 _ _ _ _ _)
        refine x_aload_n dL_law_1305 rfl rfl (Or.inr (by decide)) (?_ : Ex _ _ 1306 _ _ _ _ _)
        refine x_iload dL_law_1306 rfl (?_ : Ex _ _ 1308 _ _ _ _ _)
        refine x_aload_n dL_law_1308 rfl rfl (Or.inr (by decide)) (?_ : Ex _ _ 1309 _ _ _ _ _)
        obtain ⟨v11, m12, g13, h⟩ := cal_some h
        refine cV0 (e_X11_workflows (d + 48) g13) (contN (by decide) (?_ : Ex _ _ 1312 _ _ _ _ _)) og_X11_workflows rfl ml_RL_91 11 rfl rfl c6 im_X11_workflows se_X11_workflows (Nat.le_of_ble_eq_true rfl) dL_law_1309
        obtain ⟨⟨c14, c15⟩, h⟩ := chk_some h
        refine x_irem dL_law_1312 c14 c15 (?_ : Ex _ _ 1313 _ _ _ _ _)
        obtain ⟨v16, m17, g18, h⟩ := cal_some h
        refine cS2 (e_L_isFlow (d + 43) g18) (contN (by decide) (?_ : Ex _ _ 1316 _ _ _ _ _)) og_L_isFlow rfl ml_RL_138 sm_L_isFlow (Nat.le_of_ble_eq_true rfl) dL_law_1313
        rcases ite_some h with ⟨b19, h⟩ | ⟨b19, h⟩
        · refine x_if_eq (tgt := 1332) dL_law_1316 rfl b19 (?_ : Ex _ _ 1332 _ _ _ _ _)
          refine x_iconst dL_law_1332 rfl (by decide) (?_ : Ex _ _ 1333 _ _ _ _ _)
          refine Ex.wk (ls2 := [(7, 0), (21, l1), (3, 0), (0, l3), (0, l4), (3, 0), (0, l6), (3, 0), (3, 0), (3, 0), (3, 0), (3, 0), (3, 0), (3, 0), (3, 0)]) ⟨Or.inr rfl, Or.inr rfl, Or.inl rfl, Or.inr rfl, Or.inr rfl, Or.inl rfl, Or.inr rfl, Or.inl rfl, Or.inl rfl, Or.inl rfl, Or.inl rfl, Or.inl rfl, Or.inl rfl, Or.inl rfl, Or.inl rfl, trivial⟩ ?_
          exact e_L_law_1333 d hk360 h
        · refine x_if_eqN dL_law_1316 (by decide) b19 (?_ : Ex _ _ 1319 _ _ _ _ _)
          refine Ex.wk (ls2 := [(7, 0), (21, l1), (3, 0), (0, l3), (0, l4), (3, 0), (0, l6), (3, 0), (3, 0), (3, 0), (3, 0), (3, 0), (3, 0), (3, 0), (3, 0)]) ⟨Or.inr rfl, Or.inr rfl, Or.inl rfl, Or.inr rfl, Or.inr rfl, Or.inl rfl, Or.inr rfl, Or.inl rfl, Or.inl rfl, Or.inl rfl, Or.inl rfl, Or.inl rfl, Or.inl rfl, Or.inl rfl, Or.inl rfl, trivial⟩ ?_
          exact e_L_law_1319 d hk360 h
theorem e_L_law_642 (d : Nat) {k360 : Int → Int → Int → Int → Mem → Option R2} (hk360 : ∀ {l1 l2 l3 l4 : Int} {m : Mem} {v : Int} {m' : Mem}, k360 l1 l2 l3 l4 m = some (v, m') → Ex (d + 49) fm_L_law 360 [(7, 0), (21, l1), (0, l2), (0, l3), (0, l4), (3, 0), (3, 0), (3, 0), (3, 0), (3, 0), (3, 0), (3, 0), (3, 0), (3, 0), (3, 0)] [] m (.inl (0, v)) m') {l1 l3 l4 l6 l9 l13 s0 s1 s2 : Int} {m : Mem} {v : Int} {m' : Mem} (h : L_law_642 k360 l1 l3 l4 l6 l9 l13 s0 s1 s2 m = some (v, m')) : Ex (d + 49) fm_L_law 642 [(7, 0), (21, l1), (3, 0), (0, l3), (0, l4), (3, 0), (0, l6), (3, 0), (3, 0), (0, l9), (3, 0), (3, 0), (3, 0), (0, l13), (3, 0)] [(0, s0), (0, s1), (0, s2)] m (.inl (0, v)) m' := by
  unfold L_law_642 at h
  obtain ⟨c1, h⟩ := chk_some h
  refine x_iadd dL_law_642 c1 (?_ : Ex _ _ 643 _ _ _ _ _)
  rcases ite_some h with ⟨b2, h⟩ | ⟨b2, h⟩
  · refine x_icmp_neN dL_law_643 (by decide) (fun hh => hh b2) (?_ : Ex _ _ 646 _ _ _ _ _)
    refine x_iload dL_law_646 rfl (?_ : Ex _ _ 648 _ _ _ _ _)
    rcases ite_some h with ⟨b3, h⟩ | ⟨b3, h⟩
    · refine x_if_eq (tgt := 660) dL_law_648 rfl b3 (?_ : Ex _ _ 660 _ _ _ _ _)
      refine x_iconst dL_law_660 rfl (by decide) (?_ : Ex _ _ 661 _ _ _ _ _)
      refine x_goto (tgt := 665) dL_law_661 rfl (?_ : Ex _ _ 665 _ _ _ _ _)
      refine x_istore_n (ls2 := [(7, 0), (21, l1), (0, 1), (0, l3), (0, l4), (3, 0), (0, l6), (3, 0), (3, 0), (0, l9), (3, 0), (3, 0), (3, 0), (0, l13), (3, 0)]) dL_law_665 rfl (Nat.le_of_ble_eq_true rfl) rfl (?_ : Ex _ _ 666 _ _ _ _ _)
      refine x_goto (tgt := 1287) dL_law_666 rfl (?_ : Ex _ _ 1287 _ _ _ _ _)
      refine Ex.wk (ls2 := [(7, 0), (21, l1), (0, 1), (0, l3), (0, l4), (3, 0), (0, l6), (3, 0), (3, 0), (3, 0), (3, 0), (3, 0), (3, 0), (3, 0), (3, 0)]) ⟨Or.inr rfl, Or.inr rfl, Or.inr rfl, Or.inr rfl, Or.inr rfl, Or.inl rfl, Or.inr rfl, Or.inl rfl, Or.inl rfl, Or.inl rfl, Or.inl rfl, Or.inl rfl, Or.inl rfl, Or.inl rfl, Or.inl rfl, trivial⟩ ?_
      exact e_L_law_1287 d hk360 h
    · refine x_if_eqN dL_law_648 (by decide) b3 (?_ : Ex _ _ 651 _ _ _ _ _)
      refine x_aload_n dL_law_651 rfl rfl (Or.inr (by decide)) (?_ : Ex _ _ 652 _ _ _ _ _)
      refine x_iload dL_law_652 rfl (?_ : Ex _ _ 654 _ _ _ _ _)
      obtain ⟨c4, h⟩ := chk_some h
      obtain ⟨v5, m6, g7, h⟩ := cal0_some h
      refine cV1 (e_X11_isDue (d + 46) g7) (cont0 (by decide) (?_ : Ex _ _ 657 _ _ _ _ _)) og_X11_isDue rfl ml_RL_81 11 rfl rfl c4 im_X11_isDue se_X11_isDue (Nat.le_of_ble_eq_true rfl) dL_law_654
      rcases ite_some h with ⟨b8, h⟩ | ⟨b8, h⟩
      · refine x_if_eq (tgt := 664) dL_law_657 rfl b8 (?_ : Ex _ _ 664 _ _ _ _ _)
        refine x_iconst dL_law_664 rfl (by decide) (?_ : Ex _ _ 665 _ _ _ _ _)
        refine x_istore_n (ls2 := [(7, 0), (21, l1), (0, 0), (0, l3), (0, l4), (3, 0), (0, l6), (3, 0), (3, 0), (0, l9), (3, 0), (3, 0), (3, 0), (0, l13), (3, 0)]) dL_law_665 rfl (Nat.le_of_ble_eq_true rfl) rfl (?_ : Ex _ _ 666 _ _ _ _ _)
        refine x_goto (tgt := 1287) dL_law_666 rfl (?_ : Ex _ _ 1287 _ _ _ _ _)
        refine Ex.wk (ls2 := [(7, 0), (21, l1), (0, 0), (0, l3), (0, l4), (3, 0), (0, l6), (3, 0), (3, 0), (3, 0), (3, 0), (3, 0), (3, 0), (3, 0), (3, 0)]) ⟨Or.inr rfl, Or.inr rfl, Or.inr rfl, Or.inr rfl, Or.inr rfl, Or.inl rfl, Or.inr rfl, Or.inl rfl, Or.inl rfl, Or.inl rfl, Or.inl rfl, Or.inl rfl, Or.inl rfl, Or.inl rfl, Or.inl rfl, trivial⟩ ?_
        exact e_L_law_1287 d hk360 h
      · refine x_if_eqN dL_law_657 (by decide) b8 (?_ : Ex _ _ 660 _ _ _ _ _)
        refine x_iconst dL_law_660 rfl (by decide) (?_ : Ex _ _ 661 _ _ _ _ _)
        refine x_goto (tgt := 665) dL_law_661 rfl (?_ : Ex _ _ 665 _ _ _ _ _)
        refine x_istore_n (ls2 := [(7, 0), (21, l1), (0, 1), (0, l3), (0, l4), (3, 0), (0, l6), (3, 0), (3, 0), (0, l9), (3, 0), (3, 0), (3, 0), (0, l13), (3, 0)]) dL_law_665 rfl (Nat.le_of_ble_eq_true rfl) rfl (?_ : Ex _ _ 666 _ _ _ _ _)
        refine x_goto (tgt := 1287) dL_law_666 rfl (?_ : Ex _ _ 1287 _ _ _ _ _)
        refine Ex.wk (ls2 := [(7, 0), (21, l1), (0, 1), (0, l3), (0, l4), (3, 0), (0, l6), (3, 0), (3, 0), (3, 0), (3, 0), (3, 0), (3, 0), (3, 0), (3, 0)]) ⟨Or.inr rfl, Or.inr rfl, Or.inr rfl, Or.inr rfl, Or.inr rfl, Or.inl rfl, Or.inr rfl, Or.inl rfl, Or.inl rfl, Or.inl rfl, Or.inl rfl, Or.inl rfl, Or.inl rfl, Or.inl rfl, Or.inl rfl, trivial⟩ ?_
        exact e_L_law_1287 d hk360 h
  · refine x_icmp_ne (tgt := 664) dL_law_643 rfl b2 (?_ : Ex _ _ 664 _ _ _ _ _)
    refine x_iconst dL_law_664 rfl (by decide) (?_ : Ex _ _ 665 _ _ _ _ _)
    refine x_istore_n (ls2 := [(7, 0), (21, l1), (0, 0), (0, l3), (0, l4), (3, 0), (0, l6), (3, 0), (3, 0), (0, l9), (3, 0), (3, 0), (3, 0), (0, l13), (3, 0)]) dL_law_665 rfl (Nat.le_of_ble_eq_true rfl) rfl (?_ : Ex _ _ 666 _ _ _ _ _)
    refine x_goto (tgt := 1287) dL_law_666 rfl (?_ : Ex _ _ 1287 _ _ _ _ _)
    refine Ex.wk (ls2 := [(7, 0), (21, l1), (0, 0), (0, l3), (0, l4), (3, 0), (0, l6), (3, 0), (3, 0), (3, 0), (3, 0), (3, 0), (3, 0), (3, 0), (3, 0)]) ⟨Or.inr rfl, Or.inr rfl, Or.inr rfl, Or.inr rfl, Or.inr rfl, Or.inl rfl, Or.inr rfl, Or.inl rfl, Or.inl rfl, Or.inl rfl, Or.inl rfl, Or.inl rfl, Or.inl rfl, Or.inl rfl, Or.inl rfl, trivial⟩ ?_
    exact e_L_law_1287 d hk360 h
theorem e_L_law_619 (d : Nat) {k360 : Int → Int → Int → Int → Mem → Option R2} (hk360 : ∀ {l1 l2 l3 l4 : Int} {m : Mem} {v : Int} {m' : Mem}, k360 l1 l2 l3 l4 m = some (v, m') → Ex (d + 49) fm_L_law 360 [(7, 0), (21, l1), (0, l2), (0, l3), (0, l4), (3, 0), (3, 0), (3, 0), (3, 0), (3, 0), (3, 0), (3, 0), (3, 0), (3, 0), (3, 0)] [] m (.inl (0, v)) m') {l1 l3 l4 l6 l9 l11 l12 l13 s0 s1 : Int} {m : Mem} {v : Int} {m' : Mem} (h : L_law_619 k360 l1 l3 l4 l6 l9 l11 l12 l13 s0 s1 m = some (v, m')) : Ex (d + 49) fm_L_law 619 [(7, 0), (21, l1), (3, 0), (0, l3), (0, l4), (3, 0), (0, l6), (3, 0), (3, 0), (0, l9), (3, 0), (0, l11), (0, l12), (0, l13), (3, 0)] [(0, s0), (0, s1)] m (.inl (0, v)) m' := by
  unfold L_law_619 at h
  rcases ite_some h with ⟨b1, h⟩ | ⟨b1, h⟩
  · refine x_icmp_neN dL_law_619 (by decide) (fun hh => hh b1) (?_ : Ex _ _ 622 _ _ _ _ _)
    refine x_aload_n dL_law_622 rfl rfl (Or.inr (by decide)) (?_ : Ex _ _ 623 _ _ _ _ _)
    refine x_iload dL_law_623 rfl (?_ : Ex _ _ 625 _ _ _ _ _)
    refine x_iload dL_law_625 rfl (?_ : Ex _ _ 627 _ _ _ _ _)
    obtain ⟨c2, h⟩ := chk_some h
    obtain ⟨v3, m4, g5, h⟩ := cal0_some h
    refine cV2 (e_X11_events (d + 45) g5) (cont0 (by decide) (?_ : Ex _ _ 630 _ _ _ _ _)) og_X11_events rfl ml_RL_56 11 rfl rfl c2 im_X11_events se_X11_events (Nat.le_of_ble_eq_true rfl) dL_law_627
    refine x_iload dL_law_630 rfl (?_ : Ex _ _ 632 _ _ _ _ _)
    refine x_iload dL_law_632 rfl (?_ : Ex _ _ 634 _ _ _ _ _)
    rcases ite_some h with ⟨b6, h⟩ | ⟨b6, h⟩
    · refine x_if_eq (tgt := 641) dL_law_634 rfl b6 (?_ : Ex _ _ 641 _ _ _ _ _)
      refine x_iconst dL_law_641 rfl (by decide) (?_ : Ex _ _ 642 _ _ _ _ _)
      refine Ex.wk (ls2 := [(7, 0), (21, l1), (3, 0), (0, l3), (0, l4), (3, 0), (0, l6), (3, 0), (3, 0), (0, l9), (3, 0), (3, 0), (3, 0), (0, l13), (3, 0)]) ⟨Or.inr rfl, Or.inr rfl, Or.inl rfl, Or.inr rfl, Or.inr rfl, Or.inl rfl, Or.inr rfl, Or.inl rfl, Or.inl rfl, Or.inr rfl, Or.inl rfl, Or.inl rfl, Or.inl rfl, Or.inr rfl, Or.inl rfl, trivial⟩ ?_
      exact e_L_law_642 d hk360 h
    · refine x_if_eqN dL_law_634 (by decide) b6 (?_ : Ex _ _ 637 _ _ _ _ _)
      refine x_iconst dL_law_637 rfl (by decide) (?_ : Ex _ _ 638 _ _ _ _ _)
      refine x_goto (tgt := 642) dL_law_638 rfl (?_ : Ex _ _ 642 _ _ _ _ _)
      refine Ex.wk (ls2 := [(7, 0), (21, l1), (3, 0), (0, l3), (0, l4), (3, 0), (0, l6), (3, 0), (3, 0), (0, l9), (3, 0), (3, 0), (3, 0), (0, l13), (3, 0)]) ⟨Or.inr rfl, Or.inr rfl, Or.inl rfl, Or.inr rfl, Or.inr rfl, Or.inl rfl, Or.inr rfl, Or.inl rfl, Or.inl rfl, Or.inr rfl, Or.inl rfl, Or.inl rfl, Or.inl rfl, Or.inr rfl, Or.inl rfl, trivial⟩ ?_
      exact e_L_law_642 d hk360 h
  · refine x_icmp_ne (tgt := 664) dL_law_619 rfl b1 (?_ : Ex _ _ 664 _ _ _ _ _)
    refine x_iconst dL_law_664 rfl (by decide) (?_ : Ex _ _ 665 _ _ _ _ _)
    refine x_istore_n (ls2 := [(7, 0), (21, l1), (0, 0), (0, l3), (0, l4), (3, 0), (0, l6), (3, 0), (3, 0), (0, l9), (3, 0), (0, l11), (0, l12), (0, l13), (3, 0)]) dL_law_665 rfl (Nat.le_of_ble_eq_true rfl) rfl (?_ : Ex _ _ 666 _ _ _ _ _)
    refine x_goto (tgt := 1287) dL_law_666 rfl (?_ : Ex _ _ 1287 _ _ _ _ _)
    refine Ex.wk (ls2 := [(7, 0), (21, l1), (0, 0), (0, l3), (0, l4), (3, 0), (0, l6), (3, 0), (3, 0), (3, 0), (3, 0), (3, 0), (3, 0), (3, 0), (3, 0)]) ⟨Or.inr rfl, Or.inr rfl, Or.inr rfl, Or.inr rfl, Or.inr rfl, Or.inl rfl, Or.inr rfl, Or.inl rfl, Or.inl rfl, Or.inl rfl, Or.inl rfl, Or.inl rfl, Or.inl rfl, Or.inl rfl, Or.inl rfl, trivial⟩ ?_
    exact e_L_law_1287 d hk360 h
theorem e_L_law_1209 (d : Nat) {k360 : Int → Int → Int → Int → Mem → Option R2} (hk360 : ∀ {l1 l2 l3 l4 : Int} {m : Mem} {v : Int} {m' : Mem}, k360 l1 l2 l3 l4 m = some (v, m') → Ex (d + 49) fm_L_law 360 [(7, 0), (21, l1), (0, l2), (0, l3), (0, l4), (3, 0), (3, 0), (3, 0), (3, 0), (3, 0), (3, 0), (3, 0), (3, 0), (3, 0), (3, 0)] [] m (.inl (0, v)) m') {l1 l3 l4 l6 l10 l13 s0 : Int} {m : Mem} {v : Int} {m' : Mem} (h : L_law_1209 k360 l1 l3 l4 l6 l10 l13 s0 m = some (v, m')) : Ex (d + 49) fm_L_law 1209 [(7, 0), (21, l1), (3, 0), (0, l3), (0, l4), (3, 0), (0, l6), (3, 0), (3, 0), (3, 0), (0, l10), (3, 0), (3, 0), (0, l13), (3, 0)] [(0, s0)] m (.inl (0, v)) m' := by
  unfold L_law_1209 at h
  refine x_istore_n (ls2 := [(7, 0), (21, l1), (0, s0), (0, l3), (0, l4), (3, 0), (0, l6), (3, 0), (3, 0), (3, 0), (0, l10), (3, 0), (3, 0), (0, l13), (3, 0)]) dL_law_1209 rfl (Nat.le_of_ble_eq_true rfl) rfl (?_ : Ex _ _ 1210 _ _ _ _ _)
  refine x_iload_n dL_law_1210 rfl rfl (?_ : Ex _ _ 1211 _ _ _ _ _)
  rcases ite_some h with ⟨b1, h⟩ | ⟨b1, h⟩
  · refine x_if_eq (tgt := 1233) dL_law_1211 rfl b1 (?_ : Ex _ _ 1233 _ _ _ _ _)
    refine x_iconst dL_law_1233 rfl (by decide) (?_ : Ex _ _ 1234 _ _ _ _ _)
    refine x_istore_n (ls2 := [(7, 0), (21, l1), (0, 0), (0, l3), (0, l4), (3, 0), (0, l6), (3, 0), (3, 0), (3, 0), (0, l10), (3, 0), (3, 0), (0, l13), (3, 0)]) dL_law_1234 rfl (Nat.le_of_ble_eq_true rfl) rfl (?_ : Ex _ _ 1235 _ _ _ _ _)
    refine x_goto (tgt := 1287) dL_law_1235 rfl (?_ : Ex _ _ 1287 _ _ _ _ _)
    refine Ex.wk (ls2 := [(7, 0), (21, l1), (0, 0), (0, l3), (0, l4), (3, 0), (0, l6), (3, 0), (3, 0), (3, 0), (3, 0), (3, 0), (3, 0), (3, 0), (3, 0)]) ⟨Or.inr rfl, Or.inr rfl, Or.inr rfl, Or.inr rfl, Or.inr rfl, Or.inl rfl, Or.inr rfl, Or.inl rfl, Or.inl rfl, Or.inl rfl, Or.inl rfl, Or.inl rfl, Or.inl rfl, Or.inl rfl, Or.inl rfl, trivial⟩ ?_
    exact e_L_law_1287 d hk360 h
  · refine x_if_eqN dL_law_1211 (by decide) b1 (?_ : Ex _ _ 1214 _ _ _ _ _)
    refine x_iload dL_law_1214 rfl (?_ : Ex _ _ 1216 _ _ _ _ _)
    rcases ite_some h with ⟨b2, h⟩ | ⟨b2, h⟩
    · refine x_if_neN dL_law_1216 (by decide) (fun hh => hh b2) (?_ : Ex _ _ 1219 _ _ _ _ _)
      refine x_aload_n dL_law_1219 rfl rfl (Or.inr (by decide)) (?_ : Ex _ _ 1220 _ _ _ _ _)
      refine x_iload dL_law_1220 rfl (?_ : Ex _ _ 1222 _ _ _ _ _)
      refine x_iconst dL_law_1222 rfl (by decide) (?_ : Ex _ _ 1223 _ _ _ _ _)
      obtain ⟨c3, h⟩ := chk_some h
      obtain ⟨v4, m5, g6, h⟩ := cal0_some h
      refine cV2 (e_X11_run (d + 46) g6) (cont0 (by decide) (?_ : Ex _ _ 1226 _ _ _ _ _)) og_X11_run rfl ml_RL_127 11 rfl rfl c3 im_X11_run se_X11_run (Nat.le_of_ble_eq_true rfl) dL_law_1223
      rcases ite_some h with ⟨b7, h⟩ | ⟨b7, h⟩
      · refine x_if_neN dL_law_1226 (by decide) (fun hh => hh b7) (?_ : Ex _ _ 1229 _ _ _ _ _)
        refine x_iconst dL_law_1229 rfl (by decide) (?_ : Ex _ _ 1230 _ _ _ _ _)
        refine x_goto (tgt := 1234) dL_law_1230 rfl (?_ : Ex _ _ 1234 _ _ _ _ _)
        refine x_istore_n (ls2 := [(7, 0), (21, l1), (0, 1), (0, l3), (0, l4), (3, 0), (0, l6), (3, 0), (3, 0), (3, 0), (0, l10), (3, 0), (3, 0), (0, l13), (3, 0)]) dL_law_1234 rfl (Nat.le_of_ble_eq_true rfl) rfl (?_ : Ex _ _ 1235 _ _ _ _ _)
        refine x_goto (tgt := 1287) dL_law_1235 rfl (?_ : Ex _ _ 1287 _ _ _ _ _)
        refine Ex.wk (ls2 := [(7, 0), (21, l1), (0, 1), (0, l3), (0, l4), (3, 0), (0, l6), (3, 0), (3, 0), (3, 0), (3, 0), (3, 0), (3, 0), (3, 0), (3, 0)]) ⟨Or.inr rfl, Or.inr rfl, Or.inr rfl, Or.inr rfl, Or.inr rfl, Or.inl rfl, Or.inr rfl, Or.inl rfl, Or.inl rfl, Or.inl rfl, Or.inl rfl, Or.inl rfl, Or.inl rfl, Or.inl rfl, Or.inl rfl, trivial⟩ ?_
        exact e_L_law_1287 d hk360 h
      · refine x_if_ne (tgt := 1233) dL_law_1226 rfl b7 (?_ : Ex _ _ 1233 _ _ _ _ _)
        refine x_iconst dL_law_1233 rfl (by decide) (?_ : Ex _ _ 1234 _ _ _ _ _)
        refine x_istore_n (ls2 := [(7, 0), (21, l1), (0, 0), (0, l3), (0, l4), (3, 0), (0, l6), (3, 0), (3, 0), (3, 0), (0, l10), (3, 0), (3, 0), (0, l13), (3, 0)]) dL_law_1234 rfl (Nat.le_of_ble_eq_true rfl) rfl (?_ : Ex _ _ 1235 _ _ _ _ _)
        refine x_goto (tgt := 1287) dL_law_1235 rfl (?_ : Ex _ _ 1287 _ _ _ _ _)
        refine Ex.wk (ls2 := [(7, 0), (21, l1), (0, 0), (0, l3), (0, l4), (3, 0), (0, l6), (3, 0), (3, 0), (3, 0), (3, 0), (3, 0), (3, 0), (3, 0), (3, 0)]) ⟨Or.inr rfl, Or.inr rfl, Or.inr rfl, Or.inr rfl, Or.inr rfl, Or.inl rfl, Or.inr rfl, Or.inl rfl, Or.inl rfl, Or.inl rfl, Or.inl rfl, Or.inl rfl, Or.inl rfl, Or.inl rfl, Or.inl rfl, trivial⟩ ?_
        exact e_L_law_1287 d hk360 h
    · refine x_if_ne (tgt := 1229) dL_law_1216 rfl b2 (?_ : Ex _ _ 1229 _ _ _ _ _)
      refine x_iconst dL_law_1229 rfl (by decide) (?_ : Ex _ _ 1230 _ _ _ _ _)
      refine x_goto (tgt := 1234) dL_law_1230 rfl (?_ : Ex _ _ 1234 _ _ _ _ _)
      refine x_istore_n (ls2 := [(7, 0), (21, l1), (0, 1), (0, l3), (0, l4), (3, 0), (0, l6), (3, 0), (3, 0), (3, 0), (0, l10), (3, 0), (3, 0), (0, l13), (3, 0)]) dL_law_1234 rfl (Nat.le_of_ble_eq_true rfl) rfl (?_ : Ex _ _ 1235 _ _ _ _ _)
      refine x_goto (tgt := 1287) dL_law_1235 rfl (?_ : Ex _ _ 1287 _ _ _ _ _)
      refine Ex.wk (ls2 := [(7, 0), (21, l1), (0, 1), (0, l3), (0, l4), (3, 0), (0, l6), (3, 0), (3, 0), (3, 0), (3, 0), (3, 0), (3, 0), (3, 0), (3, 0)]) ⟨Or.inr rfl, Or.inr rfl, Or.inr rfl, Or.inr rfl, Or.inr rfl, Or.inl rfl, Or.inr rfl, Or.inl rfl, Or.inl rfl, Or.inl rfl, Or.inl rfl, Or.inl rfl, Or.inl rfl, Or.inl rfl, Or.inl rfl, trivial⟩ ?_
      exact e_L_law_1287 d hk360 h
theorem e_L_law_1188 (d : Nat) {k360 : Int → Int → Int → Int → Mem → Option R2} (hk360 : ∀ {l1 l2 l3 l4 : Int} {m : Mem} {v : Int} {m' : Mem}, k360 l1 l2 l3 l4 m = some (v, m') → Ex (d + 49) fm_L_law 360 [(7, 0), (21, l1), (0, l2), (0, l3), (0, l4), (3, 0), (3, 0), (3, 0), (3, 0), (3, 0), (3, 0), (3, 0), (3, 0), (3, 0), (3, 0)] [] m (.inl (0, v)) m') {l1 l3 l4 l6 l10 l11 l13 : Int} {m : Mem} {v : Int} {m' : Mem} (h : L_law_1188 k360 l1 l3 l4 l6 l10 l11 l13 m = some (v, m')) : Ex (d + 49) fm_L_law 1188 [(7, 0), (21, l1), (3, 0), (0, l3), (0, l4), (3, 0), (0, l6), (3, 0), (3, 0), (3, 0), (0, l10), (0, l11), (3, 0), (0, l13), (3, 0)] [] m (.inl (0, v)) m' := by
  unfold L_law_1188 at h
  refine x_iload dL_law_1188 rfl (?_ : Ex _ _ 1190 _ _ _ _ _)
  rcases ite_some h with ⟨b1, h⟩ | ⟨b1, h⟩
  · refine x_if_eq (tgt := 1204) dL_law_1190 rfl b1 (?_ : Ex _ _ 1204 _ _ _ _ _)
    refine x_iconst dL_law_1204 rfl (by decide) (?_ : Ex _ _ 1205 _ _ _ _ _)
    refine x_goto (tgt := 1209) dL_law_1205 rfl (?_ : Ex _ _ 1209 _ _ _ _ _)
    refine Ex.wk (ls2 := [(7, 0), (21, l1), (3, 0), (0, l3), (0, l4), (3, 0), (0, l6), (3, 0), (3, 0), (3, 0), (0, l10), (3, 0), (3, 0), (0, l13), (3, 0)]) ⟨Or.inr rfl, Or.inr rfl, Or.inl rfl, Or.inr rfl, Or.inr rfl, Or.inl rfl, Or.inr rfl, Or.inl rfl, Or.inl rfl, Or.inl rfl, Or.inr rfl, Or.inl rfl, Or.inl rfl, Or.inr rfl, Or.inl rfl, trivial⟩ ?_
    exact e_L_law_1209 d hk360 h
  · refine x_if_eqN dL_law_1190 (by decide) b1 (?_ : Ex _ _ 1193 _ _ _ _ _)
    refine x_aload_n dL_law_1193 rfl rfl (Or.inr (by decide)) (?_ : Ex _ _ 1194 _ _ _ _ _)
    refine x_iload dL_law_1194 rfl (?_ : Ex _ _ 1196 _ _ _ _ _)
    obtain ⟨c2, h⟩ := chk_some h
    obtain ⟨v3, m4, g5, h⟩ := cal0_some h
    refine cV1 (e_X11_has (d + 46) g5) (cont0 (by decide) (?_ : Ex _ _ 1199 _ _ _ _ _)) og_X11_has rfl ml_RL_88 11 rfl rfl c2 im_X11_has se_X11_has (Nat.le_of_ble_eq_true rfl) dL_law_1196
    refine x_iload dL_law_1199 rfl (?_ : Ex _ _ 1201 _ _ _ _ _)
    rcases ite_some h with ⟨b6, h⟩ | ⟨b6, h⟩
    · refine x_icmp_neN dL_law_1201 (by decide) (fun hh => hh b6) (?_ : Ex _ _ 1204 _ _ _ _ _)
      refine x_iconst dL_law_1204 rfl (by decide) (?_ : Ex _ _ 1205 _ _ _ _ _)
      refine x_goto (tgt := 1209) dL_law_1205 rfl (?_ : Ex _ _ 1209 _ _ _ _ _)
      refine Ex.wk (ls2 := [(7, 0), (21, l1), (3, 0), (0, l3), (0, l4), (3, 0), (0, l6), (3, 0), (3, 0), (3, 0), (0, l10), (3, 0), (3, 0), (0, l13), (3, 0)]) ⟨Or.inr rfl, Or.inr rfl, Or.inl rfl, Or.inr rfl, Or.inr rfl, Or.inl rfl, Or.inr rfl, Or.inl rfl, Or.inl rfl, Or.inl rfl, Or.inr rfl, Or.inl rfl, Or.inl rfl, Or.inr rfl, Or.inl rfl, trivial⟩ ?_
      exact e_L_law_1209 d hk360 h
    · refine x_icmp_ne (tgt := 1208) dL_law_1201 rfl b6 (?_ : Ex _ _ 1208 _ _ _ _ _)
      refine x_iconst dL_law_1208 rfl (by decide) (?_ : Ex _ _ 1209 _ _ _ _ _)
      refine Ex.wk (ls2 := [(7, 0), (21, l1), (3, 0), (0, l3), (0, l4), (3, 0), (0, l6), (3, 0), (3, 0), (3, 0), (0, l10), (3, 0), (3, 0), (0, l13), (3, 0)]) ⟨Or.inr rfl, Or.inr rfl, Or.inl rfl, Or.inr rfl, Or.inr rfl, Or.inl rfl, Or.inr rfl, Or.inl rfl, Or.inl rfl, Or.inl rfl, Or.inr rfl, Or.inl rfl, Or.inl rfl, Or.inr rfl, Or.inl rfl, trivial⟩ ?_
      exact e_L_law_1209 d hk360 h
theorem e_L_law_1170 (d : Nat) {k360 : Int → Int → Int → Int → Mem → Option R2} (hk360 : ∀ {l1 l2 l3 l4 : Int} {m : Mem} {v : Int} {m' : Mem}, k360 l1 l2 l3 l4 m = some (v, m') → Ex (d + 49) fm_L_law 360 [(7, 0), (21, l1), (0, l2), (0, l3), (0, l4), (3, 0), (3, 0), (3, 0), (3, 0), (3, 0), (3, 0), (3, 0), (3, 0), (3, 0), (3, 0)] [] m (.inl (0, v)) m') {l1 l3 l4 l6 l10 l11 l13 s0 s1 : Int} {m : Mem} {v : Int} {m' : Mem} (h : L_law_1170 k360 l1 l3 l4 l6 l10 l11 l13 s0 s1 m = some (v, m')) : Ex (d + 49) fm_L_law 1170 [(7, 0), (21, l1), (3, 0), (0, l3), (0, l4), (3, 0), (0, l6), (3, 0), (3, 0), (3, 0), (0, l10), (0, l11), (3, 0), (0, l13), (3, 0)] [(0, s0), (0, s1)] m (.inl (0, v)) m' := by
  unfold L_law_1170 at h
  rcases ite_some h with ⟨b1, h⟩ | ⟨b1, h⟩
  · refine x_icmp_neN dL_law_1170 (by decide) (fun hh => hh b1) (?_ : Ex _ _ 1173 _ _ _ _ _)
    refine x_iload dL_law_1173 rfl (?_ : Ex _ _ 1175 _ _ _ _ _)
    rcases ite_some h with ⟨b2, h⟩ | ⟨b2, h⟩
    · refine x_if_neN dL_law_1175 (by decide) (fun hh => hh b2) (?_ : Ex _ _ 1178 _ _ _ _ _)
      refine x_aload_n dL_law_1178 rfl rfl (Or.inr (by decide)) (?_ : Ex _ _ 1179 _ _ _ _ _)
      refine x_iload dL_law_1179 rfl (?_ : Ex _ _ 1181 _ _ _ _ _)
      obtain ⟨c3, h⟩ := chk_some h
      obtain ⟨v4, m5, g6, h⟩ := cal0_some h
      refine cV1 (e_X11_has (d + 46) g6) (cont0 (by decide) (?_ : Ex _ _ 1184 _ _ _ _ _)) og_X11_has rfl ml_RL_88 11 rfl rfl c3 im_X11_has se_X11_has (Nat.le_of_ble_eq_true rfl) dL_law_1181
      refine x_iconst dL_law_1184 rfl (by decide) (?_ : Ex _ _ 1185 _ _ _ _ _)
      rcases ite_some h with ⟨b7, h⟩ | ⟨b7, h⟩
      · refine x_icmp_neN dL_law_1185 (by decide) (fun hh => hh b7) (?_ : Ex _ _ 1188 _ _ _ _ _)
        exact e_L_law_1188 d hk360 h
      · refine x_icmp_ne (tgt := 1208) dL_law_1185 rfl b7 (?_ : Ex _ _ 1208 _ _ _ _ _)
        refine x_iconst dL_law_1208 rfl (by decide) (?_ : Ex _ _ 1209 _ _ _ _ _)
        refine Ex.wk (ls2 := [(7, 0), (21, l1), (3, 0), (0, l3), (0, l4), (3, 0), (0, l6), (3, 0), (3, 0), (3, 0), (0, l10), (3, 0), (3, 0), (0, l13), (3, 0)]) ⟨Or.inr rfl, Or.inr rfl, Or.inl rfl, Or.inr rfl, Or.inr rfl, Or.inl rfl, Or.inr rfl, Or.inl rfl, Or.inl rfl, Or.inl rfl, Or.inr rfl, Or.inl rfl, Or.inl rfl, Or.inr rfl, Or.inl rfl, trivial⟩ ?_
        exact e_L_law_1209 d hk360 h
    · refine x_if_ne (tgt := 1188) dL_law_1175 rfl b2 (?_ : Ex _ _ 1188 _ _ _ _ _)
      exact e_L_law_1188 d hk360 h
  · refine x_icmp_ne (tgt := 1208) dL_law_1170 rfl b1 (?_ : Ex _ _ 1208 _ _ _ _ _)
    refine x_iconst dL_law_1208 rfl (by decide) (?_ : Ex _ _ 1209 _ _ _ _ _)
    refine Ex.wk (ls2 := [(7, 0), (21, l1), (3, 0), (0, l3), (0, l4), (3, 0), (0, l6), (3, 0), (3, 0), (3, 0), (0, l10), (3, 0), (3, 0), (0, l13), (3, 0)]) ⟨Or.inr rfl, Or.inr rfl, Or.inl rfl, Or.inr rfl, Or.inr rfl, Or.inl rfl, Or.inr rfl, Or.inl rfl, Or.inl rfl, Or.inl rfl, Or.inr rfl, Or.inl rfl, Or.inl rfl, Or.inr rfl, Or.inl rfl, trivial⟩ ?_
    exact e_L_law_1209 d hk360 h
theorem e_L_law_1151 (d : Nat) {k360 : Int → Int → Int → Int → Mem → Option R2} (hk360 : ∀ {l1 l2 l3 l4 : Int} {m : Mem} {v : Int} {m' : Mem}, k360 l1 l2 l3 l4 m = some (v, m') → Ex (d + 49) fm_L_law 360 [(7, 0), (21, l1), (0, l2), (0, l3), (0, l4), (3, 0), (3, 0), (3, 0), (3, 0), (3, 0), (3, 0), (3, 0), (3, 0), (3, 0), (3, 0)] [] m (.inl (0, v)) m') {l1 l3 l4 l6 l10 l11 l13 : Int} {m : Mem} {v : Int} {m' : Mem} (h : L_law_1151 k360 l1 l3 l4 l6 l10 l11 l13 m = some (v, m')) : Ex (d + 49) fm_L_law 1151 [(7, 0), (21, l1), (3, 0), (0, l3), (0, l4), (3, 0), (0, l6), (3, 0), (3, 0), (3, 0), (0, l10), (0, l11), (3, 0), (0, l13), (3, 0)] [] m (.inl (0, v)) m' := by
  unfold L_law_1151 at h
  refine x_aload_n dL_law_1151 rfl rfl (Or.inr (by decide)) (?_ : Ex _ _ 1152 _ _ _ _ _)
  refine x_iload dL_law_1152 rfl (?_ : Ex _ _ 1154 _ _ _ _ _)
  refine x_iload dL_law_1154 rfl (?_ : Ex _ _ 1156 _ _ _ _ _)
  obtain ⟨c1, h⟩ := chk_some h
  obtain ⟨v2, m3, g4, h⟩ := cal0_some h
  refine cV2 (e_X11_run (d + 46) g4) (cont0 (by decide) (?_ : Ex _ _ 1159 _ _ _ _ _)) og_X11_run rfl ml_RL_127 11 rfl rfl c1 im_X11_run se_X11_run (Nat.le_of_ble_eq_true rfl) dL_law_1156
  refine x_iload dL_law_1159 rfl (?_ : Ex _ _ 1161 _ _ _ _ _)
  refine x_iconst dL_law_1161 rfl (by decide) (?_ : Ex _ _ 1162 _ _ _ _ _)
  rcases ite_some h with ⟨b5, h⟩ | ⟨b5, h⟩
  · refine x_icmp_le (tgt := 1169) dL_law_1162 rfl b5 (?_ : Ex _ _ 1169 _ _ _ _ _)
    refine x_iconst dL_law_1169 rfl (by decide) (?_ : Ex _ _ 1170 _ _ _ _ _)
    exact e_L_law_1170 d hk360 h
  · refine x_icmp_leN dL_law_1162 (by decide) b5 (?_ : Ex _ _ 1165 _ _ _ _ _)
    refine x_iconst dL_law_1165 rfl (by decide) (?_ : Ex _ _ 1166 _ _ _ _ _)
    refine x_goto (tgt := 1170) dL_law_1166 rfl (?_ : Ex _ _ 1170 _ _ _ _ _)
    exact e_L_law_1170 d hk360 h
theorem e_L_law_1121 (d : Nat) {k360 : Int → Int → Int → Int → Mem → Option R2} (hk360 : ∀ {l1 l2 l3 l4 : Int} {m : Mem} {v : Int} {m' : Mem}, k360 l1 l2 l3 l4 m = some (v, m') → Ex (d + 49) fm_L_law 360 [(7, 0), (21, l1), (0, l2), (0, l3), (0, l4), (3, 0), (3, 0), (3, 0), (3, 0), (3, 0), (3, 0), (3, 0), (3, 0), (3, 0), (3, 0)] [] m (.inl (0, v)) m') {l1 l3 l4 l6 l10 l11 l12 s0 : Int} {m : Mem} {v : Int} {m' : Mem} (h : L_law_1121 k360 l1 l3 l4 l6 l10 l11 l12 s0 m = some (v, m')) : Ex (d + 49) fm_L_law 1121 [(7, 0), (21, l1), (3, 0), (0, l3), (0, l4), (3, 0), (0, l6), (3, 0), (3, 0), (3, 0), (0, l10), (0, l11), (0, l12), (3, 0), (3, 0)] [(0, s0)] m (.inl (0, v)) m' := by
  unfold L_law_1121 at h
  refine x_istore (ls2 := [(7, 0), (21, l1), (3, 0), (0, l3), (0, l4), (3, 0), (0, l6), (3, 0), (3, 0), (3, 0), (0, l10), (0, l11), (0, l12), (0, s0), (3, 0)]) dL_law_1121 (Nat.le_of_ble_eq_true rfl) rfl (?_ : Ex _ _ 1123 _ _ _ _ _)
  refine x_iload dL_law_1123 rfl (?_ : Ex _ _ 1125 _ _ _ _ _)
  refine x_iconst dL_law_1125 rfl (by decide) (?_ : Ex _ _ 1126 _ _ _ _ _)
  rcases ite_some h with ⟨b1, h⟩ | ⟨b1, h⟩
  · refine x_icmp_neN dL_law_1126 (by decide) (fun hh => hh b1) (?_ : Ex _ _ 1129 _ _ _ _ _)
    refine x_iload dL_law_1129 rfl (?_ : Ex _ _ 1131 _ _ _ _ _)
    refine x_ldc (x := (-90003)) kc_RL_55 dL_law_1131 (by decide +kernel) (by decide) (?_ : Ex _ _ 1133 _ _ _ _ _)
    rcases ite_some h with ⟨b8, h⟩ | ⟨b8, h⟩
    · refine x_icmp_neN dL_law_1133 (by decide) (fun hh => hh b8) (?_ : Ex _ _ 1136 _ _ _ _ _)
      refine x_goto (tgt := 1151) dL_law_1136 rfl (?_ : Ex _ _ 1151 _ _ _ _ _)
      refine Ex.wk (ls2 := [(7, 0), (21, l1), (3, 0), (0, l3), (0, l4), (3, 0), (0, l6), (3, 0), (3, 0), (3, 0), (0, l10), (0, l11), (3, 0), (0, s0), (3, 0)]) ⟨Or.inr rfl, Or.inr rfl, Or.inl rfl, Or.inr rfl, Or.inr rfl, Or.inl rfl, Or.inr rfl, Or.inl rfl, Or.inl rfl, Or.inl rfl, Or.inr rfl, Or.inr rfl, Or.inl rfl, Or.inr rfl, Or.inl rfl, trivial⟩ ?_
      exact e_L_law_1151 d hk360 h
    · refine x_icmp_ne (tgt := 1208) dL_law_1133 rfl b8 (?_ : Ex _ _ 1208 _ _ _ _ _)
      refine x_iconst dL_law_1208 rfl (by decide) (?_ : Ex _ _ 1209 _ _ _ _ _)
      refine Ex.wk (ls2 := [(7, 0), (21, l1), (3, 0), (0, l3), (0, l4), (3, 0), (0, l6), (3, 0), (3, 0), (3, 0), (0, l10), (3, 0), (3, 0), (0, s0), (3, 0)]) ⟨Or.inr rfl, Or.inr rfl, Or.inl rfl, Or.inr rfl, Or.inr rfl, Or.inl rfl, Or.inr rfl, Or.inl rfl, Or.inl rfl, Or.inl rfl, Or.inr rfl, Or.inl rfl, Or.inl rfl, Or.inr rfl, Or.inl rfl, trivial⟩ ?_
      exact e_L_law_1209 d hk360 h
  · refine x_icmp_ne (tgt := 1139) dL_law_1126 rfl b1 (?_ : Ex _ _ 1139 _ _ _ _ _)
    refine x_iload dL_law_1139 rfl (?_ : Ex _ _ 1141 _ _ _ _ _)
    refine x_aload_n dL_law_1141 rfl rfl (Or.inr (by decide)) (?_ : Ex _ _ 1142 _ _ _ _ _)
    obtain ⟨c2, h⟩ := chk_some h
    obtain ⟨v3, m4, g5, h⟩ := cal_some h
    refine cV0 (e_X11_clock (d + 48) g5) (contN (by decide) (?_ : Ex _ _ 1145 _ _ _ _ _)) og_X11_clock rfl ml_RL_99 11 rfl rfl c2 im_X11_clock se_X11_clock (Nat.le_of_ble_eq_true rfl) dL_law_1142
    refine x_bipush dL_law_1145 kb_10 (by decide) (?_ : Ex _ _ 1147 _ _ _ _ _)
    obtain ⟨c6, h⟩ := chk_some h
    refine x_iadd dL_law_1147 c6 (?_ : Ex _ _ 1148 _ _ _ _ _)
    rcases ite_some h with ⟨b7, h⟩ | ⟨b7, h⟩
    · refine x_icmp_neN dL_law_1148 (by decide) (fun hh => hh b7) (?_ : Ex _ _ 1151 _ _ _ _ _)
      refine Ex.wk (ls2 := [(7, 0), (21, l1), (3, 0), (0, l3), (0, l4), (3, 0), (0, l6), (3, 0), (3, 0), (3, 0), (0, l10), (0, l11), (3, 0), (0, s0), (3, 0)]) ⟨Or.inr rfl, Or.inr rfl, Or.inl rfl, Or.inr rfl, Or.inr rfl, Or.inl rfl, Or.inr rfl, Or.inl rfl, Or.inl rfl, Or.inl rfl, Or.inr rfl, Or.inr rfl, Or.inl rfl, Or.inr rfl, Or.inl rfl, trivial⟩ ?_
      exact e_L_law_1151 d hk360 h
    · refine x_icmp_ne (tgt := 1208) dL_law_1148 rfl b7 (?_ : Ex _ _ 1208 _ _ _ _ _)
      refine x_iconst dL_law_1208 rfl (by decide) (?_ : Ex _ _ 1209 _ _ _ _ _)
      refine Ex.wk (ls2 := [(7, 0), (21, l1), (3, 0), (0, l3), (0, l4), (3, 0), (0, l6), (3, 0), (3, 0), (3, 0), (0, l10), (3, 0), (3, 0), (0, s0), (3, 0)]) ⟨Or.inr rfl, Or.inr rfl, Or.inl rfl, Or.inr rfl, Or.inr rfl, Or.inl rfl, Or.inr rfl, Or.inl rfl, Or.inl rfl, Or.inl rfl, Or.inr rfl, Or.inl rfl, Or.inl rfl, Or.inr rfl, Or.inl rfl, trivial⟩ ?_
      exact e_L_law_1209 d hk360 h
theorem e_L_law_1078 (d : Nat) {k360 : Int → Int → Int → Int → Mem → Option R2} (hk360 : ∀ {l1 l2 l3 l4 : Int} {m : Mem} {v : Int} {m' : Mem}, k360 l1 l2 l3 l4 m = some (v, m') → Ex (d + 49) fm_L_law 360 [(7, 0), (21, l1), (0, l2), (0, l3), (0, l4), (3, 0), (3, 0), (3, 0), (3, 0), (3, 0), (3, 0), (3, 0), (3, 0), (3, 0), (3, 0)] [] m (.inl (0, v)) m') {l1 l3 l4 l6 l7 l10 : Int} {m : Mem} {v : Int} {m' : Mem} (h : L_law_1078 k360 l1 l3 l4 l6 l7 l10 m = some (v, m')) : Ex (d + 49) fm_L_law 1078 [(7, 0), (21, l1), (3, 0), (0, l3), (0, l4), (3, 0), (0, l6), (0, l7), (3, 0), (3, 0), (0, l10), (3, 0), (3, 0), (3, 0), (3, 0)] [] m (.inl (0, v)) m' := by
  unfold L_law_1078 at h
  refine x_iload dL_law_1078 rfl (?_ : Ex _ _ 1080 _ _ _ _ _)
  refine x_bipush dL_law_1080 kb_12 (by decide) (?_ : Ex _ _ 1082 _ _ _ _ _)
  rcases ite_some h with ⟨b1, h⟩ | ⟨b1, h⟩
  · refine x_icmp_neN dL_law_1082 (by decide) (fun hh => hh b1) (?_ : Ex _ _ 1085 _ _ _ _ _)
    refine x_aload_n dL_law_1085 rfl rfl (Or.inr (by decide)) (?_ : Ex _ _ 1086 _ _ _ _ _)
    refine x_iload dL_law_1086 rfl (?_ : Ex _ _ 1088 _ _ _ _ _)
    obtain ⟨c18, h⟩ := chk_some h
    obtain ⟨v19, m20, g21, h⟩ := cal0_some h
    refine cV1 (e_X11_has (d + 46) g21) (cont0 (by decide) (?_ : Ex _ _ 1091 _ _ _ _ _)) og_X11_has rfl ml_RL_88 11 rfl rfl c18 im_X11_has se_X11_has (Nat.le_of_ble_eq_true rfl) dL_law_1088
    refine x_istore (ls2 := [(7, 0), (21, l1), (3, 0), (0, l3), (0, l4), (3, 0), (0, l6), (0, l7), (3, 0), (3, 0), (0, l10), (0, v19), (3, 0), (3, 0), (3, 0)]) dL_law_1091 (Nat.le_of_ble_eq_true rfl) rfl (?_ : Ex _ _ 1093 _ _ _ _ _)
    refine x_aload_n dL_law_1093 rfl rfl (Or.inr (by decide)) (?_ : Ex _ _ 1094 _ _ _ _ _)
    refine x_iconst dL_law_1094 rfl (by decide) (?_ : Ex _ _ 1095 _ _ _ _ _)
    refine x_iload dL_law_1095 rfl (?_ : Ex _ _ 1097 _ _ _ _ _)
    refine x_iconst dL_law_1097 rfl (by decide) (?_ : Ex _ _ 1098 _ _ _ _ _)
    refine x_iconst dL_law_1098 rfl (by decide) (?_ : Ex _ _ 1099 _ _ _ _ _)
    refine x_iconst dL_law_1099 rfl (by decide) (?_ : Ex _ _ 1100 _ _ _ _ _)
    obtain ⟨v22, m23, g24, h⟩ := cal_some h
    refine cW6 (e_L_on (d + 1) g24) (by decide) (?_ : Ex _ _ 1103 _ _ _ _ _) og_L_on (List.cons_ne_nil _ _) ml_RL_85 sm_L_on (Nat.le_of_ble_eq_true rfl) dL_law_1100
    refine x_istore (ls2 := [(7, 0), (21, l1), (3, 0), (0, l3), (0, l4), (3, 0), (0, l6), (0, l7), (3, 0), (3, 0), (0, l10), (0, v19), (0, v22), (3, 0), (3, 0)]) dL_law_1103 (Nat.le_of_ble_eq_true rfl) rfl (?_ : Ex _ _ 1105 _ _ _ _ _)
    refine x_iload dL_law_1105 rfl (?_ : Ex _ _ 1107 _ _ _ _ _)
    refine x_bipush dL_law_1107 kb_6 (by decide) (?_ : Ex _ _ 1109 _ _ _ _ _)
    refine x_ishr dL_law_1109 (?_ : Ex _ _ 1110 _ _ _ _ _)
    refine x_iconst dL_law_1110 rfl (by decide) (?_ : Ex _ _ 1111 _ _ _ _ _)
    refine x_iand dL_law_1111 (?_ : Ex _ _ 1112 _ _ _ _ _)
    refine x_iconst dL_law_1112 rfl (by decide) (?_ : Ex _ _ 1113 _ _ _ _ _)
    rcases ite_some h with ⟨b25, h⟩ | ⟨b25, h⟩
    · refine x_icmp_neN dL_law_1113 (by decide) (fun hh => hh b25) (?_ : Ex _ _ 1116 _ _ _ _ _)
      refine x_iconst dL_law_1116 rfl (by decide) (?_ : Ex _ _ 1117 _ _ _ _ _)
      refine x_goto (tgt := 1121) dL_law_1117 rfl (?_ : Ex _ _ 1121 _ _ _ _ _)
      refine Ex.wk (ls2 := [(7, 0), (21, l1), (3, 0), (0, l3), (0, l4), (3, 0), (0, l6), (3, 0), (3, 0), (3, 0), (0, l10), (0, v19), (0, v22), (3, 0), (3, 0)]) ⟨Or.inr rfl, Or.inr rfl, Or.inl rfl, Or.inr rfl, Or.inr rfl, Or.inl rfl, Or.inr rfl, Or.inl rfl, Or.inl rfl, Or.inl rfl, Or.inr rfl, Or.inr rfl, Or.inr rfl, Or.inl rfl, Or.inl rfl, trivial⟩ ?_
      exact e_L_law_1121 d hk360 h
    · refine x_icmp_ne (tgt := 1120) dL_law_1113 rfl b25 (?_ : Ex _ _ 1120 _ _ _ _ _)
      refine x_iconst dL_law_1120 rfl (by decide) (?_ : Ex _ _ 1121 _ _ _ _ _)
      refine Ex.wk (ls2 := [(7, 0), (21, l1), (3, 0), (0, l3), (0, l4), (3, 0), (0, l6), (3, 0), (3, 0), (3, 0), (0, l10), (0, v19), (0, v22), (3, 0), (3, 0)]) ⟨Or.inr rfl, Or.inr rfl, Or.inl rfl, Or.inr rfl, Or.inr rfl, Or.inl rfl, Or.inr rfl, Or.inl rfl, Or.inl rfl, Or.inl rfl, Or.inr rfl, Or.inr rfl, Or.inr rfl, Or.inl rfl, Or.inl rfl, trivial⟩ ?_
      exact e_L_law_1121 d hk360 h
  · refine x_icmp_ne (tgt := 1238) dL_law_1082 rfl b1 (?_ : Ex _ _ 1238 _ _ _ _ _)
    refine x_aload_n dL_law_1238 rfl rfl (Or.inr (by decide)) (?_ : Ex _ _ 1239 _ _ _ _ _)
    obtain ⟨c2, h⟩ := chk_some h
    obtain ⟨v3, m4, g5, h⟩ := cal_some h
    refine cV0 (e_X11_clock (d + 48) g5) (contN (by decide) (?_ : Ex _ _ 1242 _ _ _ _ _)) og_X11_clock rfl ml_RL_99 11 rfl rfl c2 im_X11_clock se_X11_clock (Nat.le_of_ble_eq_true rfl) dL_law_1239
    refine x_istore (ls2 := [(7, 0), (21, l1), (3, 0), (0, l3), (0, l4), (3, 0), (0, l6), (0, l7), (3, 0), (3, 0), (0, l10), (0, v3), (3, 0), (3, 0), (3, 0)]) dL_law_1242 (Nat.le_of_ble_eq_true rfl) rfl (?_ : Ex _ _ 1244 _ _ _ _ _)
    refine x_iconst dL_law_1244 rfl (by decide) (?_ : Ex _ _ 1245 _ _ _ _ _)
    refine x_iload dL_law_1245 rfl (?_ : Ex _ _ 1247 _ _ _ _ _)
    refine x_iconst dL_law_1247 rfl (by decide) (?_ : Ex _ _ 1248 _ _ _ _ _)
    refine x_ishr dL_law_1248 (?_ : Ex _ _ 1249 _ _ _ _ _)
    refine x_bipush dL_law_1249 kb_6 (by decide) (?_ : Ex _ _ 1251 _ _ _ _ _)
    obtain ⟨c6, h⟩ := chk_some h
    refine x_irem dL_law_1251 c6 (by decide) (?_ : Ex _ _ 1252 _ _ _ _ _)
    obtain ⟨c7, h⟩ := chk_some h
    refine x_iadd dL_law_1252 c7 (?_ : Ex _ _ 1253 _ _ _ _ _)
    refine x_istore (ls2 := [(7, 0), (21, l1), (3, 0), (0, l3), (0, l4), (3, 0), (0, l6), (0, l7), (3, 0), (3, 0), (0, l10), (0, v3), (0, (1 + ((Int32.ofInt l6 >>> (Int32.ofInt 3 &&& 31)).toInt % 6))), (3, 0), (3, 0)]) dL_law_1253 (Nat.le_of_ble_eq_true rfl) rfl (?_ : Ex _ _ 1255 _ _ _ _ _)
    refine x_aload_n dL_law_1255 rfl rfl (Or.inr (by decide)) (?_ : Ex _ _ 1256 _ _ _ _ _)
    refine x_iload dL_law_1256 rfl (?_ : Ex _ _ 1258 _ _ _ _ _)
    obtain ⟨v8, m9, g10, h⟩ := cal0_some h
    refine cV1 (e_X11_tick (d + 43) g10) (cont0 (by decide) (?_ : Ex _ _ 1261 _ _ _ _ _)) og_X11_tick rfl ml_RL_131 11 rfl rfl c2 im_X11_tick se_X11_tick (Nat.le_of_ble_eq_true rfl) dL_law_1258
    refine x_iload dL_law_1261 rfl (?_ : Ex _ _ 1263 _ _ _ _ _)
    refine x_iload dL_law_1263 rfl (?_ : Ex _ _ 1265 _ _ _ _ _)
    obtain ⟨c11, h⟩ := chk_some h
    refine x_iadd dL_law_1265 c11 (?_ : Ex _ _ 1266 _ _ _ _ _)
    rcases ite_some h with ⟨b12, h⟩ | ⟨b12, h⟩
    · refine x_icmp_neN dL_law_1266 (by decide) (fun hh => hh b12) (?_ : Ex _ _ 1269 _ _ _ _ _)
      refine x_aload_n dL_law_1269 rfl rfl (Or.inr (by decide)) (?_ : Ex _ _ 1270 _ _ _ _ _)
      obtain ⟨v13, m14, g15, h⟩ := cal_some h
      refine cV0 (e_X11_clock (d + 48) g15) (contN (by decide) (?_ : Ex _ _ 1273 _ _ _ _ _)) og_X11_clock rfl ml_RL_99 11 rfl rfl c2 im_X11_clock se_X11_clock (Nat.le_of_ble_eq_true rfl) dL_law_1270
      refine x_iload dL_law_1273 rfl (?_ : Ex _ _ 1275 _ _ _ _ _)
      refine x_iload dL_law_1275 rfl (?_ : Ex _ _ 1277 _ _ _ _ _)
      obtain ⟨c16, h⟩ := chk_some h
      refine x_iadd dL_law_1277 c16 (?_ : Ex _ _ 1278 _ _ _ _ _)
      rcases ite_some h with ⟨b17, h⟩ | ⟨b17, h⟩
      · refine x_icmp_neN dL_law_1278 (by decide) (fun hh => hh b17) (?_ : Ex _ _ 1281 _ _ _ _ _)
        refine x_iconst dL_law_1281 rfl (by decide) (?_ : Ex _ _ 1282 _ _ _ _ _)
        refine x_goto (tgt := 1286) dL_law_1282 rfl (?_ : Ex _ _ 1286 _ _ _ _ _)
        refine x_istore_n (ls2 := [(7, 0), (21, l1), (0, 1), (0, l3), (0, l4), (3, 0), (0, l6), (0, l7), (3, 0), (3, 0), (0, l10), (0, v3), (0, (1 + ((Int32.ofInt l6 >>> (Int32.ofInt 3 &&& 31)).toInt % 6))), (3, 0), (3, 0)]) dL_law_1286 rfl (Nat.le_of_ble_eq_true rfl) rfl (?_ : Ex _ _ 1287 _ _ _ _ _)
        refine Ex.wk (ls2 := [(7, 0), (21, l1), (0, 1), (0, l3), (0, l4), (3, 0), (0, l6), (3, 0), (3, 0), (3, 0), (3, 0), (3, 0), (3, 0), (3, 0), (3, 0)]) ⟨Or.inr rfl, Or.inr rfl, Or.inr rfl, Or.inr rfl, Or.inr rfl, Or.inl rfl, Or.inr rfl, Or.inl rfl, Or.inl rfl, Or.inl rfl, Or.inl rfl, Or.inl rfl, Or.inl rfl, Or.inl rfl, Or.inl rfl, trivial⟩ ?_
        exact e_L_law_1287 d hk360 h
      · refine x_icmp_ne (tgt := 1285) dL_law_1278 rfl b17 (?_ : Ex _ _ 1285 _ _ _ _ _)
        refine x_iconst dL_law_1285 rfl (by decide) (?_ : Ex _ _ 1286 _ _ _ _ _)
        refine x_istore_n (ls2 := [(7, 0), (21, l1), (0, 0), (0, l3), (0, l4), (3, 0), (0, l6), (0, l7), (3, 0), (3, 0), (0, l10), (0, v3), (0, (1 + ((Int32.ofInt l6 >>> (Int32.ofInt 3 &&& 31)).toInt % 6))), (3, 0), (3, 0)]) dL_law_1286 rfl (Nat.le_of_ble_eq_true rfl) rfl (?_ : Ex _ _ 1287 _ _ _ _ _)
        refine Ex.wk (ls2 := [(7, 0), (21, l1), (0, 0), (0, l3), (0, l4), (3, 0), (0, l6), (3, 0), (3, 0), (3, 0), (3, 0), (3, 0), (3, 0), (3, 0), (3, 0)]) ⟨Or.inr rfl, Or.inr rfl, Or.inr rfl, Or.inr rfl, Or.inr rfl, Or.inl rfl, Or.inr rfl, Or.inl rfl, Or.inl rfl, Or.inl rfl, Or.inl rfl, Or.inl rfl, Or.inl rfl, Or.inl rfl, Or.inl rfl, trivial⟩ ?_
        exact e_L_law_1287 d hk360 h
    · refine x_icmp_ne (tgt := 1285) dL_law_1266 rfl b12 (?_ : Ex _ _ 1285 _ _ _ _ _)
      refine x_iconst dL_law_1285 rfl (by decide) (?_ : Ex _ _ 1286 _ _ _ _ _)
      refine x_istore_n (ls2 := [(7, 0), (21, l1), (0, 0), (0, l3), (0, l4), (3, 0), (0, l6), (0, l7), (3, 0), (3, 0), (0, l10), (0, v3), (0, (1 + ((Int32.ofInt l6 >>> (Int32.ofInt 3 &&& 31)).toInt % 6))), (3, 0), (3, 0)]) dL_law_1286 rfl (Nat.le_of_ble_eq_true rfl) rfl (?_ : Ex _ _ 1287 _ _ _ _ _)
      refine Ex.wk (ls2 := [(7, 0), (21, l1), (0, 0), (0, l3), (0, l4), (3, 0), (0, l6), (3, 0), (3, 0), (3, 0), (3, 0), (3, 0), (3, 0), (3, 0), (3, 0)]) ⟨Or.inr rfl, Or.inr rfl, Or.inr rfl, Or.inr rfl, Or.inr rfl, Or.inl rfl, Or.inr rfl, Or.inl rfl, Or.inl rfl, Or.inl rfl, Or.inl rfl, Or.inl rfl, Or.inl rfl, Or.inl rfl, Or.inl rfl, trivial⟩ ?_
      exact e_L_law_1287 d hk360 h
theorem e_L_law_737 (d : Nat) {k360 : Int → Int → Int → Int → Mem → Option R2} (hk360 : ∀ {l1 l2 l3 l4 : Int} {m : Mem} {v : Int} {m' : Mem}, k360 l1 l2 l3 l4 m = some (v, m') → Ex (d + 49) fm_L_law 360 [(7, 0), (21, l1), (0, l2), (0, l3), (0, l4), (3, 0), (3, 0), (3, 0), (3, 0), (3, 0), (3, 0), (3, 0), (3, 0), (3, 0), (3, 0)] [] m (.inl (0, v)) m') {l1 l3 l4 l6 l7 l9 l10 : Int} {m : Mem} {v : Int} {m' : Mem} (h : L_law_737 k360 l1 l3 l4 l6 l7 l9 l10 m = some (v, m')) : Ex (d + 49) fm_L_law 737 [(7, 0), (21, l1), (3, 0), (0, l3), (0, l4), (3, 0), (0, l6), (0, l7), (3, 0), (0, l9), (0, l10), (3, 0), (3, 0), (3, 0), (3, 0)] [] m (.inl (0, v)) m' := by
  unfold L_law_737 at h
  refine x_iload dL_law_737 rfl (?_ : Ex _ _ 739 _ _ _ _ _)
  refine x_bipush dL_law_739 kb_9 (by decide) (?_ : Ex _ _ 741 _ _ _ _ _)
  rcases ite_some h with ⟨b1, h⟩ | ⟨b1, h⟩
  · refine x_icmp_ge (tgt := 764) dL_law_741 rfl b1 (?_ : Ex _ _ 764 _ _ _ _ _)
    refine x_iload dL_law_764 rfl (?_ : Ex _ _ 766 _ _ _ _ _)
    refine x_bipush dL_law_766 kb_11 (by decide) (?_ : Ex _ _ 768 _ _ _ _ _)
    rcases ite_some h with ⟨b2, h⟩ | ⟨b2, h⟩
    · refine x_icmp_ge (tgt := 897) dL_law_768 rfl b2 (?_ : Ex _ _ 897 _ _ _ _ _)
      refine x_iload dL_law_897 rfl (?_ : Ex _ _ 899 _ _ _ _ _)
      refine x_bipush dL_law_899 kb_11 (by decide) (?_ : Ex _ _ 901 _ _ _ _ _)
      rcases ite_some h with ⟨b3, h⟩ | ⟨b3, h⟩
      · refine x_icmp_neN dL_law_901 (by decide) (fun hh => hh b3) (?_ : Ex _ _ 904 _ _ _ _ _)
        refine x_aload_n dL_law_904 rfl rfl (Or.inr (by decide)) (?_ : Ex _ _ 905 _ _ _ _ _)
        refine x_iload dL_law_905 rfl (?_ : Ex _ _ 907 _ _ _ _ _)
        obtain ⟨c21, h⟩ := chk_some h
        obtain ⟨v22, m23, g24, h⟩ := cal0_some h
        refine cV1 (e_X11_has (d + 46) g24) (cont0 (by decide) (?_ : Ex _ _ 910 _ _ _ _ _)) og_X11_has rfl ml_RL_88 11 rfl rfl c21 im_X11_has se_X11_has (Nat.le_of_ble_eq_true rfl) dL_law_907
        refine x_istore (ls2 := [(7, 0), (21, l1), (3, 0), (0, l3), (0, l4), (3, 0), (0, l6), (0, l7), (3, 0), (0, l9), (0, l10), (0, v22), (3, 0), (3, 0), (3, 0)]) dL_law_910 (Nat.le_of_ble_eq_true rfl) rfl (?_ : Ex _ _ 912 _ _ _ _ _)
        refine x_aload_n dL_law_912 rfl rfl (Or.inr (by decide)) (?_ : Ex _ _ 913 _ _ _ _ _)
        refine x_bipush dL_law_913 kb_6 (by decide) (?_ : Ex _ _ 915 _ _ _ _ _)
        refine x_iload dL_law_915 rfl (?_ : Ex _ _ 917 _ _ _ _ _)
        refine x_iload dL_law_917 rfl (?_ : Ex _ _ 919 _ _ _ _ _)
        refine x_bipush dL_law_919 kb_6 (by decide) (?_ : Ex _ _ 921 _ _ _ _ _)
        refine x_ishr dL_law_921 (?_ : Ex _ _ 922 _ _ _ _ _)
        refine x_bipush dL_law_922 kb_99 (by decide) (?_ : Ex _ _ 924 _ _ _ _ _)
        obtain ⟨c25, h⟩ := chk_some h
        refine x_irem dL_law_924 c25 (by decide) (?_ : Ex _ _ 925 _ _ _ _ _)
        refine x_iconst dL_law_925 rfl (by decide) (?_ : Ex _ _ 926 _ _ _ _ _)
        refine x_iconst dL_law_926 rfl (by decide) (?_ : Ex _ _ 927 _ _ _ _ _)
        obtain ⟨v26, m27, g28, h⟩ := cal_some h
        refine cW6 (e_L_on (d + 1) g28) (by decide) (?_ : Ex _ _ 930 _ _ _ _ _) og_L_on (List.cons_ne_nil _ _) ml_RL_85 sm_L_on (Nat.le_of_ble_eq_true rfl) dL_law_927
        refine x_istore (ls2 := [(7, 0), (21, l1), (3, 0), (0, l3), (0, l4), (3, 0), (0, l6), (0, l7), (3, 0), (0, l9), (0, l10), (0, v22), (0, v26), (3, 0), (3, 0)]) dL_law_930 (Nat.le_of_ble_eq_true rfl) rfl (?_ : Ex _ _ 932 _ _ _ _ _)
        refine x_iload dL_law_932 rfl (?_ : Ex _ _ 934 _ _ _ _ _)
        refine x_iconst dL_law_934 rfl (by decide) (?_ : Ex _ _ 935 _ _ _ _ _)
        rcases ite_some h with ⟨b29, h⟩ | ⟨b29, h⟩
        · refine x_icmp_neN dL_law_935 (by decide) (fun hh => hh b29) (?_ : Ex _ _ 938 _ _ _ _ _)
          refine x_iload dL_law_938 rfl (?_ : Ex _ _ 940 _ _ _ _ _)
          refine x_ldc (x := (-90003)) kc_RL_55 dL_law_940 (by decide +kernel) (by decide) (?_ : Ex _ _ 942 _ _ _ _ _)
          rcases ite_some h with ⟨b40, h⟩ | ⟨b40, h⟩
          · refine x_icmp_neN dL_law_942 (by decide) (fun hh => hh b40) (?_ : Ex _ _ 945 _ _ _ _ _)
            refine x_iconst dL_law_945 rfl (by decide) (?_ : Ex _ _ 946 _ _ _ _ _)
            refine x_goto (tgt := 986) dL_law_946 rfl (?_ : Ex _ _ 986 _ _ _ _ _)
            refine x_istore_n (ls2 := [(7, 0), (21, l1), (0, 1), (0, l3), (0, l4), (3, 0), (0, l6), (0, l7), (3, 0), (0, l9), (0, l10), (0, v22), (0, v26), (3, 0), (3, 0)]) dL_law_986 rfl (Nat.le_of_ble_eq_true rfl) rfl (?_ : Ex _ _ 987 _ _ _ _ _)
            refine x_goto (tgt := 1287) dL_law_987 rfl (?_ : Ex _ _ 1287 _ _ _ _ _)
            refine Ex.wk (ls2 := [(7, 0), (21, l1), (0, 1), (0, l3), (0, l4), (3, 0), (0, l6), (3, 0), (3, 0), (3, 0), (3, 0), (3, 0), (3, 0), (3, 0), (3, 0)]) ⟨Or.inr rfl, Or.inr rfl, Or.inr rfl, Or.inr rfl, Or.inr rfl, Or.inl rfl, Or.inr rfl, Or.inl rfl, Or.inl rfl, Or.inl rfl, Or.inl rfl, Or.inl rfl, Or.inl rfl, Or.inl rfl, Or.inl rfl, trivial⟩ ?_
            exact e_L_law_1287 d hk360 h
          · refine x_icmp_ne (tgt := 949) dL_law_942 rfl b40 (?_ : Ex _ _ 949 _ _ _ _ _)
            refine x_iconst dL_law_949 rfl (by decide) (?_ : Ex _ _ 950 _ _ _ _ _)
            refine x_goto (tgt := 986) dL_law_950 rfl (?_ : Ex _ _ 986 _ _ _ _ _)
            refine x_istore_n (ls2 := [(7, 0), (21, l1), (0, 0), (0, l3), (0, l4), (3, 0), (0, l6), (0, l7), (3, 0), (0, l9), (0, l10), (0, v22), (0, v26), (3, 0), (3, 0)]) dL_law_986 rfl (Nat.le_of_ble_eq_true rfl) rfl (?_ : Ex _ _ 987 _ _ _ _ _)
            refine x_goto (tgt := 1287) dL_law_987 rfl (?_ : Ex _ _ 1287 _ _ _ _ _)
            refine Ex.wk (ls2 := [(7, 0), (21, l1), (0, 0), (0, l3), (0, l4), (3, 0), (0, l6), (3, 0), (3, 0), (3, 0), (3, 0), (3, 0), (3, 0), (3, 0), (3, 0)]) ⟨Or.inr rfl, Or.inr rfl, Or.inr rfl, Or.inr rfl, Or.inr rfl, Or.inl rfl, Or.inr rfl, Or.inl rfl, Or.inl rfl, Or.inl rfl, Or.inl rfl, Or.inl rfl, Or.inl rfl, Or.inl rfl, Or.inl rfl, trivial⟩ ?_
            exact e_L_law_1287 d hk360 h
        · refine x_icmp_ne (tgt := 953) dL_law_935 rfl b29 (?_ : Ex _ _ 953 _ _ _ _ _)
          refine x_aload_n dL_law_953 rfl rfl (Or.inr (by decide)) (?_ : Ex _ _ 954 _ _ _ _ _)
          refine x_iload dL_law_954 rfl (?_ : Ex _ _ 956 _ _ _ _ _)
          obtain ⟨v30, m31, g32, h⟩ := cal0_some h
          refine cV1 (e_X11_has (d + 46) g32) (cont0 (by decide) (?_ : Ex _ _ 959 _ _ _ _ _)) og_X11_has rfl ml_RL_88 11 rfl rfl c21 im_X11_has se_X11_has (Nat.le_of_ble_eq_true rfl) dL_law_956
          refine x_iconst dL_law_959 rfl (by decide) (?_ : Ex _ _ 960 _ _ _ _ _)
          rcases ite_some h with ⟨b33, h⟩ | ⟨b33, h⟩
          · refine x_icmp_neN dL_law_960 (by decide) (fun hh => hh b33) (?_ : Ex _ _ 963 _ _ _ _ _)
            refine x_iload dL_law_963 rfl (?_ : Ex _ _ 965 _ _ _ _ _)
            rcases ite_some h with ⟨b34, h⟩ | ⟨b34, h⟩
            · refine x_if_eq (tgt := 981) dL_law_965 rfl b34 (?_ : Ex _ _ 981 _ _ _ _ _)
              refine x_iconst dL_law_981 rfl (by decide) (?_ : Ex _ _ 982 _ _ _ _ _)
              refine x_goto (tgt := 986) dL_law_982 rfl (?_ : Ex _ _ 986 _ _ _ _ _)
              refine x_istore_n (ls2 := [(7, 0), (21, l1), (0, 1), (0, l3), (0, l4), (3, 0), (0, l6), (0, l7), (3, 0), (0, l9), (0, l10), (0, v22), (0, v26), (3, 0), (3, 0)]) dL_law_986 rfl (Nat.le_of_ble_eq_true rfl) rfl (?_ : Ex _ _ 987 _ _ _ _ _)
              refine x_goto (tgt := 1287) dL_law_987 rfl (?_ : Ex _ _ 1287 _ _ _ _ _)
              refine Ex.wk (ls2 := [(7, 0), (21, l1), (0, 1), (0, l3), (0, l4), (3, 0), (0, l6), (3, 0), (3, 0), (3, 0), (3, 0), (3, 0), (3, 0), (3, 0), (3, 0)]) ⟨Or.inr rfl, Or.inr rfl, Or.inr rfl, Or.inr rfl, Or.inr rfl, Or.inl rfl, Or.inr rfl, Or.inl rfl, Or.inl rfl, Or.inl rfl, Or.inl rfl, Or.inl rfl, Or.inl rfl, Or.inl rfl, Or.inl rfl, trivial⟩ ?_
              exact e_L_law_1287 d hk360 h
            · refine x_if_eqN dL_law_965 (by decide) b34 (?_ : Ex _ _ 968 _ _ _ _ _)
              refine x_aload_n dL_law_968 rfl rfl (Or.inr (by decide)) (?_ : Ex _ _ 969 _ _ _ _ _)
              refine x_iload dL_law_969 rfl (?_ : Ex _ _ 971 _ _ _ _ _)
              refine x_sipush dL_law_971 ks_1000 (by decide) (?_ : Ex _ _ 974 _ _ _ _ _)
              obtain ⟨c35, h⟩ := chk_some h
              refine x_idiv dL_law_974 c35 (by decide) (?_ : Ex _ _ 975 _ _ _ _ _)
              obtain ⟨v36, m37, g38, h⟩ := cal0_some h
              refine cV1 (e_X11_isDue (d + 46) g38) (cont0 (by decide) (?_ : Ex _ _ 978 _ _ _ _ _)) og_X11_isDue rfl ml_RL_81 11 rfl rfl c21 im_X11_isDue se_X11_isDue (Nat.le_of_ble_eq_true rfl) dL_law_975
              rcases ite_some h with ⟨b39, h⟩ | ⟨b39, h⟩
              · refine x_if_eq (tgt := 985) dL_law_978 rfl b39 (?_ : Ex _ _ 985 _ _ _ _ _)
                refine x_iconst dL_law_985 rfl (by decide) (?_ : Ex _ _ 986 _ _ _ _ _)
                refine x_istore_n (ls2 := [(7, 0), (21, l1), (0, 0), (0, l3), (0, l4), (3, 0), (0, l6), (0, l7), (3, 0), (0, l9), (0, l10), (0, v22), (0, v26), (3, 0), (3, 0)]) dL_law_986 rfl (Nat.le_of_ble_eq_true rfl) rfl (?_ : Ex _ _ 987 _ _ _ _ _)
                refine x_goto (tgt := 1287) dL_law_987 rfl (?_ : Ex _ _ 1287 _ _ _ _ _)
                refine Ex.wk (ls2 := [(7, 0), (21, l1), (0, 0), (0, l3), (0, l4), (3, 0), (0, l6), (3, 0), (3, 0), (3, 0), (3, 0), (3, 0), (3, 0), (3, 0), (3, 0)]) ⟨Or.inr rfl, Or.inr rfl, Or.inr rfl, Or.inr rfl, Or.inr rfl, Or.inl rfl, Or.inr rfl, Or.inl rfl, Or.inl rfl, Or.inl rfl, Or.inl rfl, Or.inl rfl, Or.inl rfl, Or.inl rfl, Or.inl rfl, trivial⟩ ?_
                exact e_L_law_1287 d hk360 h
              · refine x_if_eqN dL_law_978 (by decide) b39 (?_ : Ex _ _ 981 _ _ _ _ _)
                refine x_iconst dL_law_981 rfl (by decide) (?_ : Ex _ _ 982 _ _ _ _ _)
                refine x_goto (tgt := 986) dL_law_982 rfl (?_ : Ex _ _ 986 _ _ _ _ _)
                refine x_istore_n (ls2 := [(7, 0), (21, l1), (0, 1), (0, l3), (0, l4), (3, 0), (0, l6), (0, l7), (3, 0), (0, l9), (0, l10), (0, v22), (0, v26), (3, 0), (3, 0)]) dL_law_986 rfl (Nat.le_of_ble_eq_true rfl) rfl (?_ : Ex _ _ 987 _ _ _ _ _)
                refine x_goto (tgt := 1287) dL_law_987 rfl (?_ : Ex _ _ 1287 _ _ _ _ _)
                refine Ex.wk (ls2 := [(7, 0), (21, l1), (0, 1), (0, l3), (0, l4), (3, 0), (0, l6), (3, 0), (3, 0), (3, 0), (3, 0), (3, 0), (3, 0), (3, 0), (3, 0)]) ⟨Or.inr rfl, Or.inr rfl, Or.inr rfl, Or.inr rfl, Or.inr rfl, Or.inl rfl, Or.inr rfl, Or.inl rfl, Or.inl rfl, Or.inl rfl, Or.inl rfl, Or.inl rfl, Or.inl rfl, Or.inl rfl, Or.inl rfl, trivial⟩ ?_
                exact e_L_law_1287 d hk360 h
          · refine x_icmp_ne (tgt := 985) dL_law_960 rfl b33 (?_ : Ex _ _ 985 _ _ _ _ _)
            refine x_iconst dL_law_985 rfl (by decide) (?_ : Ex _ _ 986 _ _ _ _ _)
            refine x_istore_n (ls2 := [(7, 0), (21, l1), (0, 0), (0, l3), (0, l4), (3, 0), (0, l6), (0, l7), (3, 0), (0, l9), (0, l10), (0, v22), (0, v26), (3, 0), (3, 0)]) dL_law_986 rfl (Nat.le_of_ble_eq_true rfl) rfl (?_ : Ex _ _ 987 _ _ _ _ _)
            refine x_goto (tgt := 1287) dL_law_987 rfl (?_ : Ex _ _ 1287 _ _ _ _ _)
            refine Ex.wk (ls2 := [(7, 0), (21, l1), (0, 0), (0, l3), (0, l4), (3, 0), (0, l6), (3, 0), (3, 0), (3, 0), (3, 0), (3, 0), (3, 0), (3, 0), (3, 0)]) ⟨Or.inr rfl, Or.inr rfl, Or.inr rfl, Or.inr rfl, Or.inr rfl, Or.inl rfl, Or.inr rfl, Or.inl rfl, Or.inl rfl, Or.inl rfl, Or.inl rfl, Or.inl rfl, Or.inl rfl, Or.inl rfl, Or.inl rfl, trivial⟩ ?_
            exact e_L_law_1287 d hk360 h
      · refine x_icmp_ne (tgt := 990) dL_law_901 rfl b3 (?_ : Ex _ _ 990 _ _ _ _ _)
        refine x_iload dL_law_990 rfl (?_ : Ex _ _ 992 _ _ _ _ _)
        refine x_bipush dL_law_992 kb_12 (by decide) (?_ : Ex _ _ 994 _ _ _ _ _)
        rcases ite_some h with ⟨b4, h⟩ | ⟨b4, h⟩
        · refine x_icmp_neN dL_law_994 (by decide) (fun hh => hh b4) (?_ : Ex _ _ 997 _ _ _ _ _)
          refine x_iload dL_law_997 rfl (?_ : Ex _ _ 999 _ _ _ _ _)
          refine x_iconst dL_law_999 rfl (by decide) (?_ : Ex _ _ 1000 _ _ _ _ _)
          refine x_ishr dL_law_1000 (?_ : Ex _ _ 1001 _ _ _ _ _)
          refine x_iconst dL_law_1001 rfl (by decide) (?_ : Ex _ _ 1002 _ _ _ _ _)
          refine x_iand dL_law_1002 (?_ : Ex _ _ 1003 _ _ _ _ _)
          rcases ite_some h with ⟨b5, h⟩ | ⟨b5, h⟩
          · refine x_if_neN dL_law_1003 (by decide) (fun hh => hh b5) (?_ : Ex _ _ 1006 _ _ _ _ _)
            refine x_aload_n dL_law_1006 rfl rfl (Or.inr (by decide)) (?_ : Ex _ _ 1007 _ _ _ _ _)
            refine x_iload dL_law_1007 rfl (?_ : Ex _ _ 1009 _ _ _ _ _)
            obtain ⟨c6, h⟩ := chk_some h
            obtain ⟨v7, m8, g9, h⟩ := cal0_some h
            refine cV1 (e_X11_has (d + 46) g9) (cont0 (by decide) (?_ : Ex _ _ 1012 _ _ _ _ _)) og_X11_has rfl ml_RL_88 11 rfl rfl c6 im_X11_has se_X11_has (Nat.le_of_ble_eq_true rfl) dL_law_1009
            refine x_istore (ls2 := [(7, 0), (21, l1), (3, 0), (0, l3), (0, l4), (3, 0), (0, l6), (0, l7), (3, 0), (0, l9), (0, l10), (0, v7), (3, 0), (3, 0), (3, 0)]) dL_law_1012 (Nat.le_of_ble_eq_true rfl) rfl (?_ : Ex _ _ 1014 _ _ _ _ _)
            refine x_aload_n dL_law_1014 rfl rfl (Or.inr (by decide)) (?_ : Ex _ _ 1015 _ _ _ _ _)
            refine x_bipush dL_law_1015 kb_7 (by decide) (?_ : Ex _ _ 1017 _ _ _ _ _)
            refine x_iload dL_law_1017 rfl (?_ : Ex _ _ 1019 _ _ _ _ _)
            refine x_iconst dL_law_1019 rfl (by decide) (?_ : Ex _ _ 1020 _ _ _ _ _)
            refine x_iconst dL_law_1020 rfl (by decide) (?_ : Ex _ _ 1021 _ _ _ _ _)
            refine x_iconst dL_law_1021 rfl (by decide) (?_ : Ex _ _ 1022 _ _ _ _ _)
            obtain ⟨v10, m11, g12, h⟩ := cal_some h
            refine cW6 (e_L_on (d + 1) g12) (by decide) (?_ : Ex _ _ 1025 _ _ _ _ _) og_L_on (List.cons_ne_nil _ _) ml_RL_85 sm_L_on (Nat.le_of_ble_eq_true rfl) dL_law_1022
            refine x_istore (ls2 := [(7, 0), (21, l1), (3, 0), (0, l3), (0, l4), (3, 0), (0, l6), (0, l7), (3, 0), (0, l9), (0, l10), (0, v7), (0, v10), (3, 0), (3, 0)]) dL_law_1025 (Nat.le_of_ble_eq_true rfl) rfl (?_ : Ex _ _ 1027 _ _ _ _ _)
            refine x_iload dL_law_1027 rfl (?_ : Ex _ _ 1029 _ _ _ _ _)
            refine x_iconst dL_law_1029 rfl (by decide) (?_ : Ex _ _ 1030 _ _ _ _ _)
            rcases ite_some h with ⟨b13, h⟩ | ⟨b13, h⟩
            · refine x_icmp_neN dL_law_1030 (by decide) (fun hh => hh b13) (?_ : Ex _ _ 1033 _ _ _ _ _)
              refine x_iload dL_law_1033 rfl (?_ : Ex _ _ 1035 _ _ _ _ _)
              refine x_ldc (x := (-90003)) kc_RL_55 dL_law_1035 (by decide +kernel) (by decide) (?_ : Ex _ _ 1037 _ _ _ _ _)
              rcases ite_some h with ⟨b20, h⟩ | ⟨b20, h⟩
              · refine x_icmp_neN dL_law_1037 (by decide) (fun hh => hh b20) (?_ : Ex _ _ 1040 _ _ _ _ _)
                refine x_iconst dL_law_1040 rfl (by decide) (?_ : Ex _ _ 1041 _ _ _ _ _)
                refine x_goto (tgt := 1074) dL_law_1041 rfl (?_ : Ex _ _ 1074 _ _ _ _ _)
                refine x_istore_n (ls2 := [(7, 0), (21, l1), (0, 1), (0, l3), (0, l4), (3, 0), (0, l6), (0, l7), (3, 0), (0, l9), (0, l10), (0, v7), (0, v10), (3, 0), (3, 0)]) dL_law_1074 rfl (Nat.le_of_ble_eq_true rfl) rfl (?_ : Ex _ _ 1075 _ _ _ _ _)
                refine x_goto (tgt := 1287) dL_law_1075 rfl (?_ : Ex _ _ 1287 _ _ _ _ _)
                refine Ex.wk (ls2 := [(7, 0), (21, l1), (0, 1), (0, l3), (0, l4), (3, 0), (0, l6), (3, 0), (3, 0), (3, 0), (3, 0), (3, 0), (3, 0), (3, 0), (3, 0)]) ⟨Or.inr rfl, Or.inr rfl, Or.inr rfl, Or.inr rfl, Or.inr rfl, Or.inl rfl, Or.inr rfl, Or.inl rfl, Or.inl rfl, Or.inl rfl, Or.inl rfl, Or.inl rfl, Or.inl rfl, Or.inl rfl, Or.inl rfl, trivial⟩ ?_
                exact e_L_law_1287 d hk360 h
              · refine x_icmp_ne (tgt := 1044) dL_law_1037 rfl b20 (?_ : Ex _ _ 1044 _ _ _ _ _)
                refine x_iconst dL_law_1044 rfl (by decide) (?_ : Ex _ _ 1045 _ _ _ _ _)
                refine x_goto (tgt := 1074) dL_law_1045 rfl (?_ : Ex _ _ 1074 _ _ _ _ _)
                refine x_istore_n (ls2 := [(7, 0), (21, l1), (0, 0), (0, l3), (0, l4), (3, 0), (0, l6), (0, l7), (3, 0), (0, l9), (0, l10), (0, v7), (0, v10), (3, 0), (3, 0)]) dL_law_1074 rfl (Nat.le_of_ble_eq_true rfl) rfl (?_ : Ex _ _ 1075 _ _ _ _ _)
                refine x_goto (tgt := 1287) dL_law_1075 rfl (?_ : Ex _ _ 1287 _ _ _ _ _)
                refine Ex.wk (ls2 := [(7, 0), (21, l1), (0, 0), (0, l3), (0, l4), (3, 0), (0, l6), (3, 0), (3, 0), (3, 0), (3, 0), (3, 0), (3, 0), (3, 0), (3, 0)]) ⟨Or.inr rfl, Or.inr rfl, Or.inr rfl, Or.inr rfl, Or.inr rfl, Or.inl rfl, Or.inr rfl, Or.inl rfl, Or.inl rfl, Or.inl rfl, Or.inl rfl, Or.inl rfl, Or.inl rfl, Or.inl rfl, Or.inl rfl, trivial⟩ ?_
                exact e_L_law_1287 d hk360 h
            · refine x_icmp_ne (tgt := 1048) dL_law_1030 rfl b13 (?_ : Ex _ _ 1048 _ _ _ _ _)
              refine x_iload dL_law_1048 rfl (?_ : Ex _ _ 1050 _ _ _ _ _)
              rcases ite_some h with ⟨b14, h⟩ | ⟨b14, h⟩
              · refine x_if_le (tgt := 1073) dL_law_1050 rfl b14 (?_ : Ex _ _ 1073 _ _ _ _ _)
                refine x_iconst dL_law_1073 rfl (by decide) (?_ : Ex _ _ 1074 _ _ _ _ _)
                refine x_istore_n (ls2 := [(7, 0), (21, l1), (0, 0), (0, l3), (0, l4), (3, 0), (0, l6), (0, l7), (3, 0), (0, l9), (0, l10), (0, v7), (0, v10), (3, 0), (3, 0)]) dL_law_1074 rfl (Nat.le_of_ble_eq_true rfl) rfl (?_ : Ex _ _ 1075 _ _ _ _ _)
                refine x_goto (tgt := 1287) dL_law_1075 rfl (?_ : Ex _ _ 1287 _ _ _ _ _)
                refine Ex.wk (ls2 := [(7, 0), (21, l1), (0, 0), (0, l3), (0, l4), (3, 0), (0, l6), (3, 0), (3, 0), (3, 0), (3, 0), (3, 0), (3, 0), (3, 0), (3, 0)]) ⟨Or.inr rfl, Or.inr rfl, Or.inr rfl, Or.inr rfl, Or.inr rfl, Or.inl rfl, Or.inr rfl, Or.inl rfl, Or.inl rfl, Or.inl rfl, Or.inl rfl, Or.inl rfl, Or.inl rfl, Or.inl rfl, Or.inl rfl, trivial⟩ ?_
                exact e_L_law_1287 d hk360 h
              · refine x_if_leN dL_law_1050 (by decide) b14 (?_ : Ex _ _ 1053 _ _ _ _ _)
                refine x_iload dL_law_1053 rfl (?_ : Ex _ _ 1055 _ _ _ _ _)
                refine x_iconst dL_law_1055 rfl (by decide) (?_ : Ex _ _ 1056 _ _ _ _ _)
                rcases ite_some h with ⟨b15, h⟩ | ⟨b15, h⟩
                · refine x_icmp_ge (tgt := 1073) dL_law_1056 rfl b15 (?_ : Ex _ _ 1073 _ _ _ _ _)
                  refine x_iconst dL_law_1073 rfl (by decide) (?_ : Ex _ _ 1074 _ _ _ _ _)
                  refine x_istore_n (ls2 := [(7, 0), (21, l1), (0, 0), (0, l3), (0, l4), (3, 0), (0, l6), (0, l7), (3, 0), (0, l9), (0, l10), (0, v7), (0, v10), (3, 0), (3, 0)]) dL_law_1074 rfl (Nat.le_of_ble_eq_true rfl) rfl (?_ : Ex _ _ 1075 _ _ _ _ _)
                  refine x_goto (tgt := 1287) dL_law_1075 rfl (?_ : Ex _ _ 1287 _ _ _ _ _)
                  refine Ex.wk (ls2 := [(7, 0), (21, l1), (0, 0), (0, l3), (0, l4), (3, 0), (0, l6), (3, 0), (3, 0), (3, 0), (3, 0), (3, 0), (3, 0), (3, 0), (3, 0)]) ⟨Or.inr rfl, Or.inr rfl, Or.inr rfl, Or.inr rfl, Or.inr rfl, Or.inl rfl, Or.inr rfl, Or.inl rfl, Or.inl rfl, Or.inl rfl, Or.inl rfl, Or.inl rfl, Or.inl rfl, Or.inl rfl, Or.inl rfl, trivial⟩ ?_
                  exact e_L_law_1287 d hk360 h
                · refine x_icmp_geN dL_law_1056 (by decide) b15 (?_ : Ex _ _ 1059 _ _ _ _ _)
                  refine x_aload_n dL_law_1059 rfl rfl (Or.inr (by decide)) (?_ : Ex _ _ 1060 _ _ _ _ _)
                  refine x_iload dL_law_1060 rfl (?_ : Ex _ _ 1062 _ _ _ _ _)
                  obtain ⟨v16, m17, g18, h⟩ := cal0_some h
                  refine cV1 (e_X11_has (d + 46) g18) (cont0 (by decide) (?_ : Ex _ _ 1065 _ _ _ _ _)) og_X11_has rfl ml_RL_88 11 rfl rfl c6 im_X11_has se_X11_has (Nat.le_of_ble_eq_true rfl) dL_law_1062
                  refine x_iconst dL_law_1065 rfl (by decide) (?_ : Ex _ _ 1066 _ _ _ _ _)
                  rcases ite_some h with ⟨b19, h⟩ | ⟨b19, h⟩
                  · refine x_icmp_neN dL_law_1066 (by decide) (fun hh => hh b19) (?_ : Ex _ _ 1069 _ _ _ _ _)
                    refine x_iconst dL_law_1069 rfl (by decide) (?_ : Ex _ _ 1070 _ _ _ _ _)
                    refine x_goto (tgt := 1074) dL_law_1070 rfl (?_ : Ex _ _ 1074 _ _ _ _ _)
                    refine x_istore_n (ls2 := [(7, 0), (21, l1), (0, 1), (0, l3), (0, l4), (3, 0), (0, l6), (0, l7), (3, 0), (0, l9), (0, l10), (0, v7), (0, v10), (3, 0), (3, 0)]) dL_law_1074 rfl (Nat.le_of_ble_eq_true rfl) rfl (?_ : Ex _ _ 1075 _ _ _ _ _)
                    refine x_goto (tgt := 1287) dL_law_1075 rfl (?_ : Ex _ _ 1287 _ _ _ _ _)
                    refine Ex.wk (ls2 := [(7, 0), (21, l1), (0, 1), (0, l3), (0, l4), (3, 0), (0, l6), (3, 0), (3, 0), (3, 0), (3, 0), (3, 0), (3, 0), (3, 0), (3, 0)]) ⟨Or.inr rfl, Or.inr rfl, Or.inr rfl, Or.inr rfl, Or.inr rfl, Or.inl rfl, Or.inr rfl, Or.inl rfl, Or.inl rfl, Or.inl rfl, Or.inl rfl, Or.inl rfl, Or.inl rfl, Or.inl rfl, Or.inl rfl, trivial⟩ ?_
                    exact e_L_law_1287 d hk360 h
                  · refine x_icmp_ne (tgt := 1073) dL_law_1066 rfl b19 (?_ : Ex _ _ 1073 _ _ _ _ _)
                    refine x_iconst dL_law_1073 rfl (by decide) (?_ : Ex _ _ 1074 _ _ _ _ _)
                    refine x_istore_n (ls2 := [(7, 0), (21, l1), (0, 0), (0, l3), (0, l4), (3, 0), (0, l6), (0, l7), (3, 0), (0, l9), (0, l10), (0, v7), (0, v10), (3, 0), (3, 0)]) dL_law_1074 rfl (Nat.le_of_ble_eq_true rfl) rfl (?_ : Ex _ _ 1075 _ _ _ _ _)
                    refine x_goto (tgt := 1287) dL_law_1075 rfl (?_ : Ex _ _ 1287 _ _ _ _ _)
                    refine Ex.wk (ls2 := [(7, 0), (21, l1), (0, 0), (0, l3), (0, l4), (3, 0), (0, l6), (3, 0), (3, 0), (3, 0), (3, 0), (3, 0), (3, 0), (3, 0), (3, 0)]) ⟨Or.inr rfl, Or.inr rfl, Or.inr rfl, Or.inr rfl, Or.inr rfl, Or.inl rfl, Or.inr rfl, Or.inl rfl, Or.inl rfl, Or.inl rfl, Or.inl rfl, Or.inl rfl, Or.inl rfl, Or.inl rfl, Or.inl rfl, trivial⟩ ?_
                    exact e_L_law_1287 d hk360 h
          · refine x_if_ne (tgt := 1078) dL_law_1003 rfl b5 (?_ : Ex _ _ 1078 _ _ _ _ _)
            refine Ex.wk (ls2 := [(7, 0), (21, l1), (3, 0), (0, l3), (0, l4), (3, 0), (0, l6), (0, l7), (3, 0), (3, 0), (0, l10), (3, 0), (3, 0), (3, 0), (3, 0)]) ⟨Or.inr rfl, Or.inr rfl, Or.inl rfl, Or.inr rfl, Or.inr rfl, Or.inl rfl, Or.inr rfl, Or.inr rfl, Or.inl rfl, Or.inl rfl, Or.inr rfl, Or.inl rfl, Or.inl rfl, Or.inl rfl, Or.inl rfl, trivial⟩ ?_
            exact e_L_law_1078 d hk360 h
        · refine x_icmp_ne (tgt := 1078) dL_law_994 rfl b4 (?_ : Ex _ _ 1078 _ _ _ _ _)
          refine Ex.wk (ls2 := [(7, 0), (21, l1), (3, 0), (0, l3), (0, l4), (3, 0), (0, l6), (0, l7), (3, 0), (3, 0), (0, l10), (3, 0), (3, 0), (3, 0), (3, 0)]) ⟨Or.inr rfl, Or.inr rfl, Or.inl rfl, Or.inr rfl, Or.inr rfl, Or.inl rfl, Or.inr rfl, Or.inr rfl, Or.inl rfl, Or.inl rfl, Or.inr rfl, Or.inl rfl, Or.inl rfl, Or.inl rfl, Or.inl rfl, trivial⟩ ?_
          exact e_L_law_1078 d hk360 h
    · refine x_icmp_geN dL_law_768 (by decide) b2 (?_ : Ex _ _ 771 _ _ _ _ _)
      refine x_iload dL_law_771 rfl (?_ : Ex _ _ 773 _ _ _ _ _)
      refine x_iconst dL_law_773 rfl (by decide) (?_ : Ex _ _ 774 _ _ _ _ _)
      refine x_ishr dL_law_774 (?_ : Ex _ _ 775 _ _ _ _ _)
      refine x_iconst dL_law_775 rfl (by decide) (?_ : Ex _ _ 776 _ _ _ _ _)
      refine x_iand dL_law_776 (?_ : Ex _ _ 777 _ _ _ _ _)
      refine x_istore (ls2 := [(7, 0), (21, l1), (3, 0), (0, l3), (0, l4), (3, 0), (0, l6), (0, l7), (3, 0), (0, l9), (0, l10), (0, (Int32.ofInt ((Int32.ofInt l6 >>> (Int32.ofInt 4 &&& 31)).toInt) &&& Int32.ofInt 1).toInt), (3, 0), (3, 0), (3, 0)]) dL_law_777 (Nat.le_of_ble_eq_true rfl) rfl (?_ : Ex _ _ 779 _ _ _ _ _)
      refine x_aload_n dL_law_779 rfl rfl (Or.inr (by decide)) (?_ : Ex _ _ 780 _ _ _ _ _)
      refine x_iload dL_law_780 rfl (?_ : Ex _ _ 782 _ _ _ _ _)
      obtain ⟨c41, h⟩ := chk_some h
      obtain ⟨v42, m43, g44, h⟩ := cal0_some h
      refine cV1 (e_X11_ready (d + 46) g44) (cont0 (by decide) (?_ : Ex _ _ 785 _ _ _ _ _)) og_X11_ready rfl ml_RL_95 11 rfl rfl c41 im_X11_ready se_X11_ready (Nat.le_of_ble_eq_true rfl) dL_law_782
      refine x_istore (ls2 := [(7, 0), (21, l1), (3, 0), (0, l3), (0, l4), (3, 0), (0, l6), (0, l7), (3, 0), (0, l9), (0, l10), (0, (Int32.ofInt ((Int32.ofInt l6 >>> (Int32.ofInt 4 &&& 31)).toInt) &&& Int32.ofInt 1).toInt), (0, v42), (3, 0), (3, 0)]) dL_law_785 (Nat.le_of_ble_eq_true rfl) rfl (?_ : Ex _ _ 787 _ _ _ _ _)
      refine x_aload_n dL_law_787 rfl rfl (Or.inr (by decide)) (?_ : Ex _ _ 788 _ _ _ _ _)
      refine x_iload dL_law_788 rfl (?_ : Ex _ _ 790 _ _ _ _ _)
      obtain ⟨v45, m46, g47, h⟩ := cal0_some h
      refine cV1 (e_X11_has (d + 46) g47) (cont0 (by decide) (?_ : Ex _ _ 793 _ _ _ _ _)) og_X11_has rfl ml_RL_88 11 rfl rfl c41 im_X11_has se_X11_has (Nat.le_of_ble_eq_true rfl) dL_law_790
      refine x_istore (ls2 := [(7, 0), (21, l1), (3, 0), (0, l3), (0, l4), (3, 0), (0, l6), (0, l7), (3, 0), (0, l9), (0, l10), (0, (Int32.ofInt ((Int32.ofInt l6 >>> (Int32.ofInt 4 &&& 31)).toInt) &&& Int32.ofInt 1).toInt), (0, v42), (0, v45), (3, 0)]) dL_law_793 (Nat.le_of_ble_eq_true rfl) rfl (?_ : Ex _ _ 795 _ _ _ _ _)
      refine x_aload_n dL_law_795 rfl rfl (Or.inr (by decide)) (?_ : Ex _ _ 796 _ _ _ _ _)
      refine x_iconst dL_law_796 rfl (by decide) (?_ : Ex _ _ 797 _ _ _ _ _)
      refine x_iload dL_law_797 rfl (?_ : Ex _ _ 799 _ _ _ _ _)
      refine x_iload dL_law_799 rfl (?_ : Ex _ _ 801 _ _ _ _ _)
      refine x_iconst dL_law_801 rfl (by decide) (?_ : Ex _ _ 802 _ _ _ _ _)
      refine x_iconst dL_law_802 rfl (by decide) (?_ : Ex _ _ 803 _ _ _ _ _)
      obtain ⟨v48, m49, g50, h⟩ := cal_some h
      refine cW6 (e_L_on (d + 1) g50) (by decide) (?_ : Ex _ _ 806 _ _ _ _ _) og_L_on (List.cons_ne_nil _ _) ml_RL_85 sm_L_on (Nat.le_of_ble_eq_true rfl) dL_law_803
      refine x_istore (ls2 := [(7, 0), (21, l1), (3, 0), (0, l3), (0, l4), (3, 0), (0, l6), (0, l7), (3, 0), (0, l9), (0, l10), (0, (Int32.ofInt ((Int32.ofInt l6 >>> (Int32.ofInt 4 &&& 31)).toInt) &&& Int32.ofInt 1).toInt), (0, v42), (0, v45), (0, v48)]) dL_law_806 (Nat.le_of_ble_eq_true rfl) rfl (?_ : Ex _ _ 808 _ _ _ _ _)
      refine x_iload dL_law_808 rfl (?_ : Ex _ _ 810 _ _ _ _ _)
      refine x_ldc (x := (-90003)) kc_RL_55 dL_law_810 (by decide +kernel) (by decide) (?_ : Ex _ _ 812 _ _ _ _ _)
      rcases ite_some h with ⟨b51, h⟩ | ⟨b51, h⟩
      · refine x_icmp_neN dL_law_812 (by decide) (fun hh => hh b51) (?_ : Ex _ _ 815 _ _ _ _ _)
        refine x_aload_n dL_law_815 rfl rfl (Or.inr (by decide)) (?_ : Ex _ _ 816 _ _ _ _ _)
        refine x_iload dL_law_816 rfl (?_ : Ex _ _ 818 _ _ _ _ _)
        obtain ⟨v67, m68, g69, h⟩ := cal0_some h
        refine cV1 (e_X11_ready (d + 46) g69) (cont0 (by decide) (?_ : Ex _ _ 821 _ _ _ _ _)) og_X11_ready rfl ml_RL_95 11 rfl rfl c41 im_X11_ready se_X11_ready (Nat.le_of_ble_eq_true rfl) dL_law_818
        refine x_iload dL_law_821 rfl (?_ : Ex _ _ 823 _ _ _ _ _)
        rcases ite_some h with ⟨b70, h⟩ | ⟨b70, h⟩
        · refine x_icmp_neN dL_law_823 (by decide) (fun hh => hh b70) (?_ : Ex _ _ 826 _ _ _ _ _)
          refine x_iconst dL_law_826 rfl (by decide) (?_ : Ex _ _ 827 _ _ _ _ _)
          refine x_goto (tgt := 893) dL_law_827 rfl (?_ : Ex _ _ 893 _ _ _ _ _)
          refine x_istore_n (ls2 := [(7, 0), (21, l1), (0, 1), (0, l3), (0, l4), (3, 0), (0, l6), (0, l7), (3, 0), (0, l9), (0, l10), (0, (Int32.ofInt ((Int32.ofInt l6 >>> (Int32.ofInt 4 &&& 31)).toInt) &&& Int32.ofInt 1).toInt), (0, v42), (0, v45), (0, v48)]) dL_law_893 rfl (Nat.le_of_ble_eq_true rfl) rfl (?_ : Ex _ _ 894 _ _ _ _ _)
          refine x_goto (tgt := 1287) dL_law_894 rfl (?_ : Ex _ _ 1287 _ _ _ _ _)
          refine Ex.wk (ls2 := [(7, 0), (21, l1), (0, 1), (0, l3), (0, l4), (3, 0), (0, l6), (3, 0), (3, 0), (3, 0), (3, 0), (3, 0), (3, 0), (3, 0), (3, 0)]) ⟨Or.inr rfl, Or.inr rfl, Or.inr rfl, Or.inr rfl, Or.inr rfl, Or.inl rfl, Or.inr rfl, Or.inl rfl, Or.inl rfl, Or.inl rfl, Or.inl rfl, Or.inl rfl, Or.inl rfl, Or.inl rfl, Or.inl rfl, trivial⟩ ?_
          exact e_L_law_1287 d hk360 h
        · refine x_icmp_ne (tgt := 830) dL_law_823 rfl b70 (?_ : Ex _ _ 830 _ _ _ _ _)
          refine x_iconst dL_law_830 rfl (by decide) (?_ : Ex _ _ 831 _ _ _ _ _)
          refine x_goto (tgt := 893) dL_law_831 rfl (?_ : Ex _ _ 893 _ _ _ _ _)
          refine x_istore_n (ls2 := [(7, 0), (21, l1), (0, 0), (0, l3), (0, l4), (3, 0), (0, l6), (0, l7), (3, 0), (0, l9), (0, l10), (0, (Int32.ofInt ((Int32.ofInt l6 >>> (Int32.ofInt 4 &&& 31)).toInt) &&& Int32.ofInt 1).toInt), (0, v42), (0, v45), (0, v48)]) dL_law_893 rfl (Nat.le_of_ble_eq_true rfl) rfl (?_ : Ex _ _ 894 _ _ _ _ _)
          refine x_goto (tgt := 1287) dL_law_894 rfl (?_ : Ex _ _ 1287 _ _ _ _ _)
          refine Ex.wk (ls2 := [(7, 0), (21, l1), (0, 0), (0, l3), (0, l4), (3, 0), (0, l6), (3, 0), (3, 0), (3, 0), (3, 0), (3, 0), (3, 0), (3, 0), (3, 0)]) ⟨Or.inr rfl, Or.inr rfl, Or.inr rfl, Or.inr rfl, Or.inr rfl, Or.inl rfl, Or.inr rfl, Or.inl rfl, Or.inl rfl, Or.inl rfl, Or.inl rfl, Or.inl rfl, Or.inl rfl, Or.inl rfl, Or.inl rfl, trivial⟩ ?_
          exact e_L_law_1287 d hk360 h
      · refine x_icmp_ne (tgt := 834) dL_law_812 rfl b51 (?_ : Ex _ _ 834 _ _ _ _ _)
        refine x_iload dL_law_834 rfl (?_ : Ex _ _ 836 _ _ _ _ _)
        refine x_iconst dL_law_836 rfl (by decide) (?_ : Ex _ _ 837 _ _ _ _ _)
        rcases ite_some h with ⟨b52, h⟩ | ⟨b52, h⟩
        · refine x_icmp_neN dL_law_837 (by decide) (fun hh => hh b52) (?_ : Ex _ _ 840 _ _ _ _ _)
          refine x_aload_n dL_law_840 rfl rfl (Or.inr (by decide)) (?_ : Ex _ _ 841 _ _ _ _ _)
          refine x_iload dL_law_841 rfl (?_ : Ex _ _ 843 _ _ _ _ _)
          obtain ⟨v63, m64, g65, h⟩ := cal0_some h
          refine cV1 (e_X11_has (d + 46) g65) (cont0 (by decide) (?_ : Ex _ _ 846 _ _ _ _ _)) og_X11_has rfl ml_RL_88 11 rfl rfl c41 im_X11_has se_X11_has (Nat.le_of_ble_eq_true rfl) dL_law_843
          refine x_iconst dL_law_846 rfl (by decide) (?_ : Ex _ _ 847 _ _ _ _ _)
          rcases ite_some h with ⟨b66, h⟩ | ⟨b66, h⟩
          · refine x_icmp_neN dL_law_847 (by decide) (fun hh => hh b66) (?_ : Ex _ _ 850 _ _ _ _ _)
            refine x_iconst dL_law_850 rfl (by decide) (?_ : Ex _ _ 851 _ _ _ _ _)
            refine x_goto (tgt := 893) dL_law_851 rfl (?_ : Ex _ _ 893 _ _ _ _ _)
            refine x_istore_n (ls2 := [(7, 0), (21, l1), (0, 1), (0, l3), (0, l4), (3, 0), (0, l6), (0, l7), (3, 0), (0, l9), (0, l10), (0, (Int32.ofInt ((Int32.ofInt l6 >>> (Int32.ofInt 4 &&& 31)).toInt) &&& Int32.ofInt 1).toInt), (0, v42), (0, v45), (0, v48)]) dL_law_893 rfl (Nat.le_of_ble_eq_true rfl) rfl (?_ : Ex _ _ 894 _ _ _ _ _)
            refine x_goto (tgt := 1287) dL_law_894 rfl (?_ : Ex _ _ 1287 _ _ _ _ _)
            refine Ex.wk (ls2 := [(7, 0), (21, l1), (0, 1), (0, l3), (0, l4), (3, 0), (0, l6), (3, 0), (3, 0), (3, 0), (3, 0), (3, 0), (3, 0), (3, 0), (3, 0)]) ⟨Or.inr rfl, Or.inr rfl, Or.inr rfl, Or.inr rfl, Or.inr rfl, Or.inl rfl, Or.inr rfl, Or.inl rfl, Or.inl rfl, Or.inl rfl, Or.inl rfl, Or.inl rfl, Or.inl rfl, Or.inl rfl, Or.inl rfl, trivial⟩ ?_
            exact e_L_law_1287 d hk360 h
          · refine x_icmp_ne (tgt := 854) dL_law_847 rfl b66 (?_ : Ex _ _ 854 _ _ _ _ _)
            refine x_iconst dL_law_854 rfl (by decide) (?_ : Ex _ _ 855 _ _ _ _ _)
            refine x_goto (tgt := 893) dL_law_855 rfl (?_ : Ex _ _ 893 _ _ _ _ _)
            refine x_istore_n (ls2 := [(7, 0), (21, l1), (0, 0), (0, l3), (0, l4), (3, 0), (0, l6), (0, l7), (3, 0), (0, l9), (0, l10), (0, (Int32.ofInt ((Int32.ofInt l6 >>> (Int32.ofInt 4 &&& 31)).toInt) &&& Int32.ofInt 1).toInt), (0, v42), (0, v45), (0, v48)]) dL_law_893 rfl (Nat.le_of_ble_eq_true rfl) rfl (?_ : Ex _ _ 894 _ _ _ _ _)
            refine x_goto (tgt := 1287) dL_law_894 rfl (?_ : Ex _ _ 1287 _ _ _ _ _)
            refine Ex.wk (ls2 := [(7, 0), (21, l1), (0, 0), (0, l3), (0, l4), (3, 0), (0, l6), (3, 0), (3, 0), (3, 0), (3, 0), (3, 0), (3, 0), (3, 0), (3, 0)]) ⟨Or.inr rfl, Or.inr rfl, Or.inr rfl, Or.inr rfl, Or.inr rfl, Or.inl rfl, Or.inr rfl, Or.inl rfl, Or.inl rfl, Or.inl rfl, Or.inl rfl, Or.inl rfl, Or.inl rfl, Or.inl rfl, Or.inl rfl, trivial⟩ ?_
            exact e_L_law_1287 d hk360 h
        · refine x_icmp_ne (tgt := 858) dL_law_837 rfl b52 (?_ : Ex _ _ 858 _ _ _ _ _)
          refine x_iload dL_law_858 rfl (?_ : Ex _ _ 860 _ _ _ _ _)
          refine x_iconst dL_law_860 rfl (by decide) (?_ : Ex _ _ 861 _ _ _ _ _)
          rcases ite_some h with ⟨b53, h⟩ | ⟨b53, h⟩
          · refine x_icmp_neN dL_law_861 (by decide) (fun hh => hh b53) (?_ : Ex _ _ 864 _ _ _ _ _)
            refine x_iload dL_law_864 rfl (?_ : Ex _ _ 866 _ _ _ _ _)
            refine x_aload_n dL_law_866 rfl rfl (Or.inr (by decide)) (?_ : Ex _ _ 867 _ _ _ _ _)
            refine x_iload dL_law_867 rfl (?_ : Ex _ _ 869 _ _ _ _ _)
            obtain ⟨v54, m55, g56, h⟩ := cal0_some h
            refine cV1 (e_X11_has (d + 46) g56) (cont0 (by decide) (?_ : Ex _ _ 872 _ _ _ _ _)) og_X11_has rfl ml_RL_88 11 rfl rfl c41 im_X11_has se_X11_has (Nat.le_of_ble_eq_true rfl) dL_law_869
            rcases ite_some h with ⟨b57, h⟩ | ⟨b57, h⟩
            · refine x_icmp_neN dL_law_872 (by decide) (fun hh => hh b57) (?_ : Ex _ _ 875 _ _ _ _ _)
              refine x_aload_n dL_law_875 rfl rfl (Or.inr (by decide)) (?_ : Ex _ _ 876 _ _ _ _ _)
              refine x_iload dL_law_876 rfl (?_ : Ex _ _ 878 _ _ _ _ _)
              obtain ⟨v58, m59, g60, h⟩ := cal0_some h
              refine cV1 (e_X11_ready (d + 46) g60) (cont0 (by decide) (?_ : Ex _ _ 881 _ _ _ _ _)) og_X11_ready rfl ml_RL_95 11 rfl rfl c41 im_X11_ready se_X11_ready (Nat.le_of_ble_eq_true rfl) dL_law_878
              refine x_iload dL_law_881 rfl (?_ : Ex _ _ 883 _ _ _ _ _)
              refine x_iconst dL_law_883 rfl (by decide) (?_ : Ex _ _ 884 _ _ _ _ _)
              obtain ⟨c61, h⟩ := chk_some h
              refine x_isub dL_law_884 c61 (?_ : Ex _ _ 885 _ _ _ _ _)
              rcases ite_some h with ⟨b62, h⟩ | ⟨b62, h⟩
              · refine x_icmp_neN dL_law_885 (by decide) (fun hh => hh b62) (?_ : Ex _ _ 888 _ _ _ _ _)
                refine x_iconst dL_law_888 rfl (by decide) (?_ : Ex _ _ 889 _ _ _ _ _)
                refine x_goto (tgt := 893) dL_law_889 rfl (?_ : Ex _ _ 893 _ _ _ _ _)
                refine x_istore_n (ls2 := [(7, 0), (21, l1), (0, 1), (0, l3), (0, l4), (3, 0), (0, l6), (0, l7), (3, 0), (0, l9), (0, l10), (0, (Int32.ofInt ((Int32.ofInt l6 >>> (Int32.ofInt 4 &&& 31)).toInt) &&& Int32.ofInt 1).toInt), (0, v42), (0, v45), (0, v48)]) dL_law_893 rfl (Nat.le_of_ble_eq_true rfl) rfl (?_ : Ex _ _ 894 _ _ _ _ _)
                refine x_goto (tgt := 1287) dL_law_894 rfl (?_ : Ex _ _ 1287 _ _ _ _ _)
                refine Ex.wk (ls2 := [(7, 0), (21, l1), (0, 1), (0, l3), (0, l4), (3, 0), (0, l6), (3, 0), (3, 0), (3, 0), (3, 0), (3, 0), (3, 0), (3, 0), (3, 0)]) ⟨Or.inr rfl, Or.inr rfl, Or.inr rfl, Or.inr rfl, Or.inr rfl, Or.inl rfl, Or.inr rfl, Or.inl rfl, Or.inl rfl, Or.inl rfl, Or.inl rfl, Or.inl rfl, Or.inl rfl, Or.inl rfl, Or.inl rfl, trivial⟩ ?_
                exact e_L_law_1287 d hk360 h
              · refine x_icmp_ne (tgt := 892) dL_law_885 rfl b62 (?_ : Ex _ _ 892 _ _ _ _ _)
                refine x_iconst dL_law_892 rfl (by decide) (?_ : Ex _ _ 893 _ _ _ _ _)
                refine x_istore_n (ls2 := [(7, 0), (21, l1), (0, 0), (0, l3), (0, l4), (3, 0), (0, l6), (0, l7), (3, 0), (0, l9), (0, l10), (0, (Int32.ofInt ((Int32.ofInt l6 >>> (Int32.ofInt 4 &&& 31)).toInt) &&& Int32.ofInt 1).toInt), (0, v42), (0, v45), (0, v48)]) dL_law_893 rfl (Nat.le_of_ble_eq_true rfl) rfl (?_ : Ex _ _ 894 _ _ _ _ _)
                refine x_goto (tgt := 1287) dL_law_894 rfl (?_ : Ex _ _ 1287 _ _ _ _ _)
                refine Ex.wk (ls2 := [(7, 0), (21, l1), (0, 0), (0, l3), (0, l4), (3, 0), (0, l6), (3, 0), (3, 0), (3, 0), (3, 0), (3, 0), (3, 0), (3, 0), (3, 0)]) ⟨Or.inr rfl, Or.inr rfl, Or.inr rfl, Or.inr rfl, Or.inr rfl, Or.inl rfl, Or.inr rfl, Or.inl rfl, Or.inl rfl, Or.inl rfl, Or.inl rfl, Or.inl rfl, Or.inl rfl, Or.inl rfl, Or.inl rfl, trivial⟩ ?_
                exact e_L_law_1287 d hk360 h
            · refine x_icmp_ne (tgt := 892) dL_law_872 rfl b57 (?_ : Ex _ _ 892 _ _ _ _ _)
              refine x_iconst dL_law_892 rfl (by decide) (?_ : Ex _ _ 893 _ _ _ _ _)
              refine x_istore_n (ls2 := [(7, 0), (21, l1), (0, 0), (0, l3), (0, l4), (3, 0), (0, l6), (0, l7), (3, 0), (0, l9), (0, l10), (0, (Int32.ofInt ((Int32.ofInt l6 >>> (Int32.ofInt 4 &&& 31)).toInt) &&& Int32.ofInt 1).toInt), (0, v42), (0, v45), (0, v48)]) dL_law_893 rfl (Nat.le_of_ble_eq_true rfl) rfl (?_ : Ex _ _ 894 _ _ _ _ _)
              refine x_goto (tgt := 1287) dL_law_894 rfl (?_ : Ex _ _ 1287 _ _ _ _ _)
              refine Ex.wk (ls2 := [(7, 0), (21, l1), (0, 0), (0, l3), (0, l4), (3, 0), (0, l6), (3, 0), (3, 0), (3, 0), (3, 0), (3, 0), (3, 0), (3, 0), (3, 0)]) ⟨Or.inr rfl, Or.inr rfl, Or.inr rfl, Or.inr rfl, Or.inr rfl, Or.inl rfl, Or.inr rfl, Or.inl rfl, Or.inl rfl, Or.inl rfl, Or.inl rfl, Or.inl rfl, Or.inl rfl, Or.inl rfl, Or.inl rfl, trivial⟩ ?_
              exact e_L_law_1287 d hk360 h
          · refine x_icmp_ne (tgt := 892) dL_law_861 rfl b53 (?_ : Ex _ _ 892 _ _ _ _ _)
            refine x_iconst dL_law_892 rfl (by decide) (?_ : Ex _ _ 893 _ _ _ _ _)
            refine x_istore_n (ls2 := [(7, 0), (21, l1), (0, 0), (0, l3), (0, l4), (3, 0), (0, l6), (0, l7), (3, 0), (0, l9), (0, l10), (0, (Int32.ofInt ((Int32.ofInt l6 >>> (Int32.ofInt 4 &&& 31)).toInt) &&& Int32.ofInt 1).toInt), (0, v42), (0, v45), (0, v48)]) dL_law_893 rfl (Nat.le_of_ble_eq_true rfl) rfl (?_ : Ex _ _ 894 _ _ _ _ _)
            refine x_goto (tgt := 1287) dL_law_894 rfl (?_ : Ex _ _ 1287 _ _ _ _ _)
            refine Ex.wk (ls2 := [(7, 0), (21, l1), (0, 0), (0, l3), (0, l4), (3, 0), (0, l6), (3, 0), (3, 0), (3, 0), (3, 0), (3, 0), (3, 0), (3, 0), (3, 0)]) ⟨Or.inr rfl, Or.inr rfl, Or.inr rfl, Or.inr rfl, Or.inr rfl, Or.inl rfl, Or.inr rfl, Or.inl rfl, Or.inl rfl, Or.inl rfl, Or.inl rfl, Or.inl rfl, Or.inl rfl, Or.inl rfl, Or.inl rfl, trivial⟩ ?_
            exact e_L_law_1287 d hk360 h
  · refine x_icmp_geN dL_law_741 (by decide) b1 (?_ : Ex _ _ 744 _ _ _ _ _)
    refine x_aload_n dL_law_744 rfl rfl (Or.inr (by decide)) (?_ : Ex _ _ 745 _ _ _ _ _)
    refine x_iload dL_law_745 rfl (?_ : Ex _ _ 747 _ _ _ _ _)
    refine x_iconst dL_law_747 rfl (by decide) (?_ : Ex _ _ 748 _ _ _ _ _)
    refine x_iload dL_law_748 rfl (?_ : Ex _ _ 750 _ _ _ _ _)
    refine x_iconst dL_law_750 rfl (by decide) (?_ : Ex _ _ 751 _ _ _ _ _)
    refine x_ishr dL_law_751 (?_ : Ex _ _ 752 _ _ _ _ _)
    refine x_iconst dL_law_752 rfl (by decide) (?_ : Ex _ _ 753 _ _ _ _ _)
    refine x_iand dL_law_753 (?_ : Ex _ _ 754 _ _ _ _ _)
    refine x_iconst dL_law_754 rfl (by decide) (?_ : Ex _ _ 755 _ _ _ _ _)
    obtain ⟨c71, h⟩ := chk_some h
    refine x_idiv dL_law_755 c71 (by decide) (?_ : Ex _ _ 756 _ _ _ _ _)
    obtain ⟨c72, h⟩ := chk_some h
    refine x_iadd dL_law_756 c72 (?_ : Ex _ _ 757 _ _ _ _ _)
    obtain ⟨v73, m74, g75, h⟩ := cal_some h
    refine cS3 (e_L_decides d g75) (contN (by decide) (?_ : Ex _ _ 760 _ _ _ _ _)) og_L_decides rfl ml_RL_123 sm_L_decides (Nat.le_of_ble_eq_true rfl) dL_law_757
    refine x_istore_n (ls2 := [(7, 0), (21, l1), (0, v73), (0, l3), (0, l4), (3, 0), (0, l6), (0, l7), (3, 0), (0, l9), (0, l10), (3, 0), (3, 0), (3, 0), (3, 0)]) dL_law_760 rfl (Nat.le_of_ble_eq_true rfl) rfl (?_ : Ex _ _ 761 _ _ _ _ _)
    refine x_goto (tgt := 1287) dL_law_761 rfl (?_ : Ex _ _ 1287 _ _ _ _ _)
    refine Ex.wk (ls2 := [(7, 0), (21, l1), (0, v73), (0, l3), (0, l4), (3, 0), (0, l6), (3, 0), (3, 0), (3, 0), (3, 0), (3, 0), (3, 0), (3, 0), (3, 0)]) ⟨Or.inr rfl, Or.inr rfl, Or.inr rfl, Or.inr rfl, Or.inr rfl, Or.inl rfl, Or.inr rfl, Or.inl rfl, Or.inl rfl, Or.inl rfl, Or.inl rfl, Or.inl rfl, Or.inl rfl, Or.inl rfl, Or.inl rfl, trivial⟩ ?_
    exact e_L_law_1287 d hk360 h
theorem e_L_law_546 (d : Nat) {k360 : Int → Int → Int → Int → Mem → Option R2} (hk360 : ∀ {l1 l2 l3 l4 : Int} {m : Mem} {v : Int} {m' : Mem}, k360 l1 l2 l3 l4 m = some (v, m') → Ex (d + 49) fm_L_law 360 [(7, 0), (21, l1), (0, l2), (0, l3), (0, l4), (3, 0), (3, 0), (3, 0), (3, 0), (3, 0), (3, 0), (3, 0), (3, 0), (3, 0), (3, 0)] [] m (.inl (0, v)) m') {l1 l3 l4 l6 l7 l9 l10 : Int} {m : Mem} {v : Int} {m' : Mem} (h : L_law_546 k360 l1 l3 l4 l6 l7 l9 l10 m = some (v, m')) : Ex (d + 49) fm_L_law 546 [(7, 0), (21, l1), (3, 0), (0, l3), (0, l4), (3, 0), (0, l6), (0, l7), (3, 0), (0, l9), (0, l10), (3, 0), (3, 0), (3, 0), (3, 0)] [] m (.inl (0, v)) m' := by
  unfold L_law_546 at h
  refine x_iload dL_law_546 rfl (?_ : Ex _ _ 548 _ _ _ _ _)
  refine x_iconst dL_law_548 rfl (by decide) (?_ : Ex _ _ 549 _ _ _ _ _)
  rcases ite_some h with ⟨b1, h⟩ | ⟨b1, h⟩
  · refine x_icmp_ge (tgt := 669) dL_law_549 rfl b1 (?_ : Ex _ _ 669 _ _ _ _ _)
    refine x_iload dL_law_669 rfl (?_ : Ex _ _ 671 _ _ _ _ _)
    refine x_iconst dL_law_671 rfl (by decide) (?_ : Ex _ _ 672 _ _ _ _ _)
    rcases ite_some h with ⟨b2, h⟩ | ⟨b2, h⟩
    · refine x_icmp_neN dL_law_672 (by decide) (fun hh => hh b2) (?_ : Ex _ _ 675 _ _ _ _ _)
      refine x_iload dL_law_675 rfl (?_ : Ex _ _ 677 _ _ _ _ _)
      refine x_iconst dL_law_677 rfl (by decide) (?_ : Ex _ _ 678 _ _ _ _ _)
      refine x_ishr dL_law_678 (?_ : Ex _ _ 679 _ _ _ _ _)
      refine x_iconst dL_law_679 rfl (by decide) (?_ : Ex _ _ 680 _ _ _ _ _)
      refine x_iand dL_law_680 (?_ : Ex _ _ 681 _ _ _ _ _)
      rcases ite_some h with ⟨b3, h⟩ | ⟨b3, h⟩
      · refine x_if_neN dL_law_681 (by decide) (fun hh => hh b3) (?_ : Ex _ _ 684 _ _ _ _ _)
        refine x_aload_n dL_law_684 rfl rfl (Or.inr (by decide)) (?_ : Ex _ _ 685 _ _ _ _ _)
        refine x_iload dL_law_685 rfl (?_ : Ex _ _ 687 _ _ _ _ _)
        obtain ⟨c4, h⟩ := chk_some h
        obtain ⟨v5, m6, g7, h⟩ := cal0_some h
        refine cV1 (e_X11_cancel (d + 45) g7) (cont0 (by decide) (?_ : Ex _ _ 690 _ _ _ _ _)) og_X11_cancel rfl ml_RL_120 11 rfl rfl c4 im_X11_cancel se_X11_cancel (Nat.le_of_ble_eq_true rfl) dL_law_687
        rcases ite_some h with ⟨b8, h⟩ | ⟨b8, h⟩
        · refine x_if_eq (tgt := 719) dL_law_690 rfl b8 (?_ : Ex _ _ 719 _ _ _ _ _)
          refine x_aload_n dL_law_719 rfl rfl (Or.inr (by decide)) (?_ : Ex _ _ 720 _ _ _ _ _)
          refine x_iload dL_law_720 rfl (?_ : Ex _ _ 722 _ _ _ _ _)
          obtain ⟨v9, m10, g11, h⟩ := cal0_some h
          refine cV1 (e_X11_cancel (d + 45) g11) (cont0 (by decide) (?_ : Ex _ _ 725 _ _ _ _ _)) og_X11_cancel rfl ml_RL_120 11 rfl rfl c4 im_X11_cancel se_X11_cancel (Nat.le_of_ble_eq_true rfl) dL_law_722
          rcases ite_some h with ⟨b12, h⟩ | ⟨b12, h⟩
          · refine x_if_neN dL_law_725 (by decide) (fun hh => hh b12) (?_ : Ex _ _ 728 _ _ _ _ _)
            refine x_iconst dL_law_728 rfl (by decide) (?_ : Ex _ _ 729 _ _ _ _ _)
            refine x_goto (tgt := 733) dL_law_729 rfl (?_ : Ex _ _ 733 _ _ _ _ _)
            refine x_istore_n (ls2 := [(7, 0), (21, l1), (0, 1), (0, l3), (0, l4), (3, 0), (0, l6), (0, l7), (3, 0), (0, l9), (0, l10), (3, 0), (3, 0), (3, 0), (3, 0)]) dL_law_733 rfl (Nat.le_of_ble_eq_true rfl) rfl (?_ : Ex _ _ 734 _ _ _ _ _)
            refine x_goto (tgt := 1287) dL_law_734 rfl (?_ : Ex _ _ 1287 _ _ _ _ _)
            refine Ex.wk (ls2 := [(7, 0), (21, l1), (0, 1), (0, l3), (0, l4), (3, 0), (0, l6), (3, 0), (3, 0), (3, 0), (3, 0), (3, 0), (3, 0), (3, 0), (3, 0)]) ⟨Or.inr rfl, Or.inr rfl, Or.inr rfl, Or.inr rfl, Or.inr rfl, Or.inl rfl, Or.inr rfl, Or.inl rfl, Or.inl rfl, Or.inl rfl, Or.inl rfl, Or.inl rfl, Or.inl rfl, Or.inl rfl, Or.inl rfl, trivial⟩ ?_
            exact e_L_law_1287 d hk360 h
          · refine x_if_ne (tgt := 732) dL_law_725 rfl b12 (?_ : Ex _ _ 732 _ _ _ _ _)
            refine x_iconst dL_law_732 rfl (by decide) (?_ : Ex _ _ 733 _ _ _ _ _)
            refine x_istore_n (ls2 := [(7, 0), (21, l1), (0, 0), (0, l3), (0, l4), (3, 0), (0, l6), (0, l7), (3, 0), (0, l9), (0, l10), (3, 0), (3, 0), (3, 0), (3, 0)]) dL_law_733 rfl (Nat.le_of_ble_eq_true rfl) rfl (?_ : Ex _ _ 734 _ _ _ _ _)
            refine x_goto (tgt := 1287) dL_law_734 rfl (?_ : Ex _ _ 1287 _ _ _ _ _)
            refine Ex.wk (ls2 := [(7, 0), (21, l1), (0, 0), (0, l3), (0, l4), (3, 0), (0, l6), (3, 0), (3, 0), (3, 0), (3, 0), (3, 0), (3, 0), (3, 0), (3, 0)]) ⟨Or.inr rfl, Or.inr rfl, Or.inr rfl, Or.inr rfl, Or.inr rfl, Or.inl rfl, Or.inr rfl, Or.inl rfl, Or.inl rfl, Or.inl rfl, Or.inl rfl, Or.inl rfl, Or.inl rfl, Or.inl rfl, Or.inl rfl, trivial⟩ ?_
            exact e_L_law_1287 d hk360 h
        · refine x_if_eqN dL_law_690 (by decide) b8 (?_ : Ex _ _ 693 _ _ _ _ _)
          refine x_aload_n dL_law_693 rfl rfl (Or.inr (by decide)) (?_ : Ex _ _ 694 _ _ _ _ _)
          refine x_iload dL_law_694 rfl (?_ : Ex _ _ 696 _ _ _ _ _)
          obtain ⟨v13, m14, g15, h⟩ := cal0_some h
          refine cV1 (e_X11_isDue (d + 46) g15) (cont0 (by decide) (?_ : Ex _ _ 699 _ _ _ _ _)) og_X11_isDue rfl ml_RL_81 11 rfl rfl c4 im_X11_isDue se_X11_isDue (Nat.le_of_ble_eq_true rfl) dL_law_696
          rcases ite_some h with ⟨b16, h⟩ | ⟨b16, h⟩
          · refine x_if_eq (tgt := 715) dL_law_699 rfl b16 (?_ : Ex _ _ 715 _ _ _ _ _)
            refine x_iconst dL_law_715 rfl (by decide) (?_ : Ex _ _ 716 _ _ _ _ _)
            refine x_goto (tgt := 733) dL_law_716 rfl (?_ : Ex _ _ 733 _ _ _ _ _)
            refine x_istore_n (ls2 := [(7, 0), (21, l1), (0, 0), (0, l3), (0, l4), (3, 0), (0, l6), (0, l7), (3, 0), (0, l9), (0, l10), (3, 0), (3, 0), (3, 0), (3, 0)]) dL_law_733 rfl (Nat.le_of_ble_eq_true rfl) rfl (?_ : Ex _ _ 734 _ _ _ _ _)
            refine x_goto (tgt := 1287) dL_law_734 rfl (?_ : Ex _ _ 1287 _ _ _ _ _)
            refine Ex.wk (ls2 := [(7, 0), (21, l1), (0, 0), (0, l3), (0, l4), (3, 0), (0, l6), (3, 0), (3, 0), (3, 0), (3, 0), (3, 0), (3, 0), (3, 0), (3, 0)]) ⟨Or.inr rfl, Or.inr rfl, Or.inr rfl, Or.inr rfl, Or.inr rfl, Or.inl rfl, Or.inr rfl, Or.inl rfl, Or.inl rfl, Or.inl rfl, Or.inl rfl, Or.inl rfl, Or.inl rfl, Or.inl rfl, Or.inl rfl, trivial⟩ ?_
            exact e_L_law_1287 d hk360 h
          · refine x_if_eqN dL_law_699 (by decide) b16 (?_ : Ex _ _ 702 _ _ _ _ _)
            refine x_aload_n dL_law_702 rfl rfl (Or.inr (by decide)) (?_ : Ex _ _ 703 _ _ _ _ _)
            refine x_iload dL_law_703 rfl (?_ : Ex _ _ 705 _ _ _ _ _)
            obtain ⟨v17, m18, g19, h⟩ := cal0_some h
            refine cV1 (e_X11_cancel (d + 45) g19) (cont0 (by decide) (?_ : Ex _ _ 708 _ _ _ _ _)) og_X11_cancel rfl ml_RL_120 11 rfl rfl c4 im_X11_cancel se_X11_cancel (Nat.le_of_ble_eq_true rfl) dL_law_705
            rcases ite_some h with ⟨b20, h⟩ | ⟨b20, h⟩
            · refine x_if_neN dL_law_708 (by decide) (fun hh => hh b20) (?_ : Ex _ _ 711 _ _ _ _ _)
              refine x_iconst dL_law_711 rfl (by decide) (?_ : Ex _ _ 712 _ _ _ _ _)
              refine x_goto (tgt := 733) dL_law_712 rfl (?_ : Ex _ _ 733 _ _ _ _ _)
              refine x_istore_n (ls2 := [(7, 0), (21, l1), (0, 1), (0, l3), (0, l4), (3, 0), (0, l6), (0, l7), (3, 0), (0, l9), (0, l10), (3, 0), (3, 0), (3, 0), (3, 0)]) dL_law_733 rfl (Nat.le_of_ble_eq_true rfl) rfl (?_ : Ex _ _ 734 _ _ _ _ _)
              refine x_goto (tgt := 1287) dL_law_734 rfl (?_ : Ex _ _ 1287 _ _ _ _ _)
              refine Ex.wk (ls2 := [(7, 0), (21, l1), (0, 1), (0, l3), (0, l4), (3, 0), (0, l6), (3, 0), (3, 0), (3, 0), (3, 0), (3, 0), (3, 0), (3, 0), (3, 0)]) ⟨Or.inr rfl, Or.inr rfl, Or.inr rfl, Or.inr rfl, Or.inr rfl, Or.inl rfl, Or.inr rfl, Or.inl rfl, Or.inl rfl, Or.inl rfl, Or.inl rfl, Or.inl rfl, Or.inl rfl, Or.inl rfl, Or.inl rfl, trivial⟩ ?_
              exact e_L_law_1287 d hk360 h
            · refine x_if_ne (tgt := 715) dL_law_708 rfl b20 (?_ : Ex _ _ 715 _ _ _ _ _)
              refine x_iconst dL_law_715 rfl (by decide) (?_ : Ex _ _ 716 _ _ _ _ _)
              refine x_goto (tgt := 733) dL_law_716 rfl (?_ : Ex _ _ 733 _ _ _ _ _)
              refine x_istore_n (ls2 := [(7, 0), (21, l1), (0, 0), (0, l3), (0, l4), (3, 0), (0, l6), (0, l7), (3, 0), (0, l9), (0, l10), (3, 0), (3, 0), (3, 0), (3, 0)]) dL_law_733 rfl (Nat.le_of_ble_eq_true rfl) rfl (?_ : Ex _ _ 734 _ _ _ _ _)
              refine x_goto (tgt := 1287) dL_law_734 rfl (?_ : Ex _ _ 1287 _ _ _ _ _)
              refine Ex.wk (ls2 := [(7, 0), (21, l1), (0, 0), (0, l3), (0, l4), (3, 0), (0, l6), (3, 0), (3, 0), (3, 0), (3, 0), (3, 0), (3, 0), (3, 0), (3, 0)]) ⟨Or.inr rfl, Or.inr rfl, Or.inr rfl, Or.inr rfl, Or.inr rfl, Or.inl rfl, Or.inr rfl, Or.inl rfl, Or.inl rfl, Or.inl rfl, Or.inl rfl, Or.inl rfl, Or.inl rfl, Or.inl rfl, Or.inl rfl, trivial⟩ ?_
              exact e_L_law_1287 d hk360 h
      · refine x_if_ne (tgt := 737) dL_law_681 rfl b3 (?_ : Ex _ _ 737 _ _ _ _ _)
        exact e_L_law_737 d hk360 h
    · refine x_icmp_ne (tgt := 737) dL_law_672 rfl b2 (?_ : Ex _ _ 737 _ _ _ _ _)
      exact e_L_law_737 d hk360 h
  · refine x_icmp_geN dL_law_549 (by decide) b1 (?_ : Ex _ _ 552 _ _ _ _ _)
    refine x_aload_n dL_law_552 rfl rfl (Or.inr (by decide)) (?_ : Ex _ _ 553 _ _ _ _ _)
    refine x_iload dL_law_553 rfl (?_ : Ex _ _ 555 _ _ _ _ _)
    obtain ⟨c21, h⟩ := chk_some h
    obtain ⟨v22, m23, g24, h⟩ := cal0_some h
    refine cV1 (e_X11_runs (d + 46) g24) (cont0 (by decide) (?_ : Ex _ _ 558 _ _ _ _ _)) og_X11_runs rfl ml_RL_69 11 rfl rfl c21 im_X11_runs se_X11_runs (Nat.le_of_ble_eq_true rfl) dL_law_555
    refine x_istore (ls2 := [(7, 0), (21, l1), (3, 0), (0, l3), (0, l4), (3, 0), (0, l6), (0, l7), (3, 0), (0, l9), (0, l10), (0, v22), (3, 0), (3, 0), (3, 0)]) dL_law_558 (Nat.le_of_ble_eq_true rfl) rfl (?_ : Ex _ _ 560 _ _ _ _ _)
    refine x_aload_n dL_law_560 rfl rfl (Or.inr (by decide)) (?_ : Ex _ _ 561 _ _ _ _ _)
    refine x_iload dL_law_561 rfl (?_ : Ex _ _ 563 _ _ _ _ _)
    refine x_iload dL_law_563 rfl (?_ : Ex _ _ 565 _ _ _ _ _)
    obtain ⟨v25, m26, g27, h⟩ := cal0_some h
    refine cV2 (e_X11_events (d + 45) g27) (cont0 (by decide) (?_ : Ex _ _ 568 _ _ _ _ _)) og_X11_events rfl ml_RL_56 11 rfl rfl c21 im_X11_events se_X11_events (Nat.le_of_ble_eq_true rfl) dL_law_565
    refine x_istore (ls2 := [(7, 0), (21, l1), (3, 0), (0, l3), (0, l4), (3, 0), (0, l6), (0, l7), (3, 0), (0, l9), (0, l10), (0, v22), (0, v25), (3, 0), (3, 0)]) dL_law_568 (Nat.le_of_ble_eq_true rfl) rfl (?_ : Ex _ _ 570 _ _ _ _ _)
    refine x_aload_n dL_law_570 rfl rfl (Or.inr (by decide)) (?_ : Ex _ _ 571 _ _ _ _ _)
    refine x_iload dL_law_571 rfl (?_ : Ex _ _ 573 _ _ _ _ _)
    refine x_iload dL_law_573 rfl (?_ : Ex _ _ 575 _ _ _ _ _)
    refine x_iconst dL_law_575 rfl (by decide) (?_ : Ex _ _ 576 _ _ _ _ _)
    refine x_ishr dL_law_576 (?_ : Ex _ _ 577 _ _ _ _ _)
    refine x_iconst dL_law_577 rfl (by decide) (?_ : Ex _ _ 578 _ _ _ _ _)
    obtain ⟨c28, h⟩ := chk_some h
    refine x_irem dL_law_578 c28 (by decide) (?_ : Ex _ _ 579 _ _ _ _ _)
    refine x_iload dL_law_579 rfl (?_ : Ex _ _ 581 _ _ _ _ _)
    refine x_bipush dL_law_581 kb_7 (by decide) (?_ : Ex _ _ 583 _ _ _ _ _)
    refine x_ishr dL_law_583 (?_ : Ex _ _ 584 _ _ _ _ _)
    refine x_bipush dL_law_584 kb_60 (by decide) (?_ : Ex _ _ 586 _ _ _ _ _)
    obtain ⟨c29, h⟩ := chk_some h
    refine x_irem dL_law_586 c29 (by decide) (?_ : Ex _ _ 587 _ _ _ _ _)
    obtain ⟨v30, m31, g32, h⟩ := cal0_some h
    refine cV3 (e_X11_signal (d + 46) g32) (cont0 (by decide) (?_ : Ex _ _ 590 _ _ _ _ _)) og_X11_signal rfl ml_RL_116 11 rfl rfl c21 im_X11_signal se_X11_signal (Nat.le_of_ble_eq_true rfl) dL_law_587
    refine x_istore (ls2 := [(7, 0), (21, l1), (3, 0), (0, l3), (0, l4), (3, 0), (0, l6), (0, l7), (3, 0), (0, l9), (0, l10), (0, v22), (0, v25), (0, v30), (3, 0)]) dL_law_590 (Nat.le_of_ble_eq_true rfl) rfl (?_ : Ex _ _ 592 _ _ _ _ _)
    refine x_iload dL_law_592 rfl (?_ : Ex _ _ 594 _ _ _ _ _)
    refine x_aload_n dL_law_594 rfl rfl (Or.inr (by decide)) (?_ : Ex _ _ 595 _ _ _ _ _)
    refine x_iload dL_law_595 rfl (?_ : Ex _ _ 597 _ _ _ _ _)
    refine x_iload dL_law_597 rfl (?_ : Ex _ _ 599 _ _ _ _ _)
    obtain ⟨v33, m34, g35, h⟩ := cal0_some h
    refine cV2 (e_X11_state (d + 45) g35) (cont0 (by decide) (?_ : Ex _ _ 602 _ _ _ _ _)) og_X11_state rfl ml_RL_59 11 rfl rfl c21 im_X11_state se_X11_state (Nat.le_of_ble_eq_true rfl) dL_law_599
    refine x_bipush dL_law_602 kb_20 (by decide) (?_ : Ex _ _ 604 _ _ _ _ _)
    rcases ite_some h with ⟨b36, h⟩ | ⟨b36, h⟩
    · refine x_icmp_neN dL_law_604 (by decide) (fun hh => hh b36) (?_ : Ex _ _ 607 _ _ _ _ _)
      refine x_iload dL_law_607 rfl (?_ : Ex _ _ 609 _ _ _ _ _)
      refine x_bipush dL_law_609 kb_78 (by decide) (?_ : Ex _ _ 611 _ _ _ _ _)
      rcases ite_some h with ⟨b37, h⟩ | ⟨b37, h⟩
      · refine x_icmp_ge (tgt := 618) dL_law_611 rfl b37 (?_ : Ex _ _ 618 _ _ _ _ _)
        refine x_iconst dL_law_618 rfl (by decide) (?_ : Ex _ _ 619 _ _ _ _ _)
        refine Ex.wk (ls2 := [(7, 0), (21, l1), (3, 0), (0, l3), (0, l4), (3, 0), (0, l6), (3, 0), (3, 0), (0, l9), (3, 0), (0, v22), (0, v25), (0, v30), (3, 0)]) ⟨Or.inr rfl, Or.inr rfl, Or.inl rfl, Or.inr rfl, Or.inr rfl, Or.inl rfl, Or.inr rfl, Or.inl rfl, Or.inl rfl, Or.inr rfl, Or.inl rfl, Or.inr rfl, Or.inr rfl, Or.inr rfl, Or.inl rfl, trivial⟩ ?_
        exact e_L_law_619 d hk360 h
      · refine x_icmp_geN dL_law_611 (by decide) b37 (?_ : Ex _ _ 614 _ _ _ _ _)
        refine x_iconst dL_law_614 rfl (by decide) (?_ : Ex _ _ 615 _ _ _ _ _)
        refine x_goto (tgt := 619) dL_law_615 rfl (?_ : Ex _ _ 619 _ _ _ _ _)
        refine Ex.wk (ls2 := [(7, 0), (21, l1), (3, 0), (0, l3), (0, l4), (3, 0), (0, l6), (3, 0), (3, 0), (0, l9), (3, 0), (0, v22), (0, v25), (0, v30), (3, 0)]) ⟨Or.inr rfl, Or.inr rfl, Or.inl rfl, Or.inr rfl, Or.inr rfl, Or.inl rfl, Or.inr rfl, Or.inl rfl, Or.inl rfl, Or.inr rfl, Or.inl rfl, Or.inr rfl, Or.inr rfl, Or.inr rfl, Or.inl rfl, trivial⟩ ?_
        exact e_L_law_619 d hk360 h
    · refine x_icmp_ne (tgt := 618) dL_law_604 rfl b36 (?_ : Ex _ _ 618 _ _ _ _ _)
      refine x_iconst dL_law_618 rfl (by decide) (?_ : Ex _ _ 619 _ _ _ _ _)
      refine Ex.wk (ls2 := [(7, 0), (21, l1), (3, 0), (0, l3), (0, l4), (3, 0), (0, l6), (3, 0), (3, 0), (0, l9), (3, 0), (0, v22), (0, v25), (0, v30), (3, 0)]) ⟨Or.inr rfl, Or.inr rfl, Or.inl rfl, Or.inr rfl, Or.inr rfl, Or.inl rfl, Or.inr rfl, Or.inl rfl, Or.inl rfl, Or.inr rfl, Or.inl rfl, Or.inr rfl, Or.inr rfl, Or.inr rfl, Or.inl rfl, trivial⟩ ?_
      exact e_L_law_619 d hk360 h
theorem e_L_law_454 (d : Nat) {k360 : Int → Int → Int → Int → Mem → Option R2} (hk360 : ∀ {l1 l2 l3 l4 : Int} {m : Mem} {v : Int} {m' : Mem}, k360 l1 l2 l3 l4 m = some (v, m') → Ex (d + 49) fm_L_law 360 [(7, 0), (21, l1), (0, l2), (0, l3), (0, l4), (3, 0), (3, 0), (3, 0), (3, 0), (3, 0), (3, 0), (3, 0), (3, 0), (3, 0), (3, 0)] [] m (.inl (0, v)) m') {l1 l3 l4 l6 l7 l8 s0 : Int} {m : Mem} {v : Int} {m' : Mem} (h : L_law_454 k360 l1 l3 l4 l6 l7 l8 s0 m = some (v, m')) : Ex (d + 49) fm_L_law 454 [(7, 0), (21, l1), (3, 0), (0, l3), (0, l4), (3, 0), (0, l6), (0, l7), (0, l8), (3, 0), (3, 0), (3, 0), (3, 0), (3, 0), (3, 0)] [(0, s0)] m (.inl (0, v)) m' := by
  unfold L_law_454 at h
  refine x_istore (ls2 := [(7, 0), (21, l1), (3, 0), (0, l3), (0, l4), (3, 0), (0, l6), (0, l7), (0, l8), (0, s0), (3, 0), (3, 0), (3, 0), (3, 0), (3, 0)]) dL_law_454 (Nat.le_of_ble_eq_true rfl) rfl (?_ : Ex _ _ 456 _ _ _ _ _)
  refine x_iload dL_law_456 rfl (?_ : Ex _ _ 458 _ _ _ _ _)
  refine x_iconst dL_law_458 rfl (by decide) (?_ : Ex _ _ 459 _ _ _ _ _)
  refine x_ishr dL_law_459 (?_ : Ex _ _ 460 _ _ _ _ _)
  refine x_iconst dL_law_460 rfl (by decide) (?_ : Ex _ _ 461 _ _ _ _ _)
  refine x_iand dL_law_461 (?_ : Ex _ _ 462 _ _ _ _ _)
  refine x_istore (ls2 := [(7, 0), (21, l1), (3, 0), (0, l3), (0, l4), (3, 0), (0, l6), (0, l7), (0, l8), (0, s0), (0, (Int32.ofInt ((Int32.ofInt l6 >>> (Int32.ofInt 2 &&& 31)).toInt) &&& Int32.ofInt 3).toInt), (3, 0), (3, 0), (3, 0), (3, 0)]) dL_law_462 (Nat.le_of_ble_eq_true rfl) rfl (?_ : Ex _ _ 464 _ _ _ _ _)
  refine x_iload dL_law_464 rfl (?_ : Ex _ _ 466 _ _ _ _ _)
  rcases ite_some h with ⟨b1, h⟩ | ⟨b1, h⟩
  · refine x_if_neN dL_law_466 (by decide) (fun hh => hh b1) (?_ : Ex _ _ 469 _ _ _ _ _)
    refine x_iload dL_law_469 rfl (?_ : Ex _ _ 471 _ _ _ _ _)
    refine x_bipush dL_law_471 kb_7 (by decide) (?_ : Ex _ _ 473 _ _ _ _ _)
    rcases ite_some h with ⟨b2, h⟩ | ⟨b2, h⟩
    · refine x_icmp_ge (tgt := 546) dL_law_473 rfl b2 (?_ : Ex _ _ 546 _ _ _ _ _)
      refine Ex.wk (ls2 := [(7, 0), (21, l1), (3, 0), (0, l3), (0, l4), (3, 0), (0, l6), (0, l7), (3, 0), (0, s0), (0, (Int32.ofInt ((Int32.ofInt l6 >>> (Int32.ofInt 2 &&& 31)).toInt) &&& Int32.ofInt 3).toInt), (3, 0), (3, 0), (3, 0), (3, 0)]) ⟨Or.inr rfl, Or.inr rfl, Or.inl rfl, Or.inr rfl, Or.inr rfl, Or.inl rfl, Or.inr rfl, Or.inr rfl, Or.inl rfl, Or.inr rfl, Or.inr rfl, Or.inl rfl, Or.inl rfl, Or.inl rfl, Or.inl rfl, trivial⟩ ?_
      exact e_L_law_546 d hk360 h
    · refine x_icmp_geN dL_law_473 (by decide) b2 (?_ : Ex _ _ 476 _ _ _ _ _)
      refine x_aload_n dL_law_476 rfl rfl (Or.inr (by decide)) (?_ : Ex _ _ 477 _ _ _ _ _)
      refine x_iconst dL_law_477 rfl (by decide) (?_ : Ex _ _ 478 _ _ _ _ _)
      refine x_iload dL_law_478 rfl (?_ : Ex _ _ 480 _ _ _ _ _)
      refine x_iconst dL_law_480 rfl (by decide) (?_ : Ex _ _ 481 _ _ _ _ _)
      refine x_ishr dL_law_481 (?_ : Ex _ _ 482 _ _ _ _ _)
      refine x_iconst dL_law_482 rfl (by decide) (?_ : Ex _ _ 483 _ _ _ _ _)
      obtain ⟨c3, h⟩ := chk_some h
      refine x_irem dL_law_483 c3 (by decide) (?_ : Ex _ _ 484 _ _ _ _ _)
      refine x_iload dL_law_484 rfl (?_ : Ex _ _ 486 _ _ _ _ _)
      refine x_iconst dL_law_486 rfl (by decide) (?_ : Ex _ _ 487 _ _ _ _ _)
      refine x_ishr dL_law_487 (?_ : Ex _ _ 488 _ _ _ _ _)
      refine x_iconst dL_law_488 rfl (by decide) (?_ : Ex _ _ 489 _ _ _ _ _)
      obtain ⟨c4, h⟩ := chk_some h
      refine x_irem dL_law_489 c4 (by decide) (?_ : Ex _ _ 490 _ _ _ _ _)
      refine x_iload dL_law_490 rfl (?_ : Ex _ _ 492 _ _ _ _ _)
      refine x_bipush dL_law_492 kb_6 (by decide) (?_ : Ex _ _ 494 _ _ _ _ _)
      refine x_ishr dL_law_494 (?_ : Ex _ _ 495 _ _ _ _ _)
      refine x_bipush dL_law_495 kb_60 (by decide) (?_ : Ex _ _ 497 _ _ _ _ _)
      obtain ⟨c5, h⟩ := chk_some h
      refine x_irem dL_law_497 c5 (by decide) (?_ : Ex _ _ 498 _ _ _ _ _)
      refine x_iconst dL_law_498 rfl (by decide) (?_ : Ex _ _ 499 _ _ _ _ _)
      obtain ⟨v6, m7, g8, h⟩ := cal_some h
      refine cW6 (e_L_on (d + 1) g8) (by decide) (?_ : Ex _ _ 502 _ _ _ _ _) og_L_on (List.cons_ne_nil _ _) ml_RL_85 sm_L_on (Nat.le_of_ble_eq_true rfl) dL_law_499
      refine x_iload dL_law_502 rfl (?_ : Ex _ _ 504 _ _ _ _ _)
      rcases ite_some h with ⟨b9, h⟩ | ⟨b9, h⟩
      · refine x_icmp_neN dL_law_504 (by decide) (fun hh => hh b9) (?_ : Ex _ _ 507 _ _ _ _ _)
        refine x_aload_n dL_law_507 rfl rfl (Or.inr (by decide)) (?_ : Ex _ _ 508 _ _ _ _ _)
        refine x_iload dL_law_508 rfl (?_ : Ex _ _ 510 _ _ _ _ _)
        obtain ⟨c10, h⟩ := chk_some h
        obtain ⟨v11, m12, g13, h⟩ := cal0_some h
        refine cV1 (e_X11_isDue (d + 46) g13) (cont0 (by decide) (?_ : Ex _ _ 513 _ _ _ _ _)) og_X11_isDue rfl ml_RL_81 11 rfl rfl c10 im_X11_isDue se_X11_isDue (Nat.le_of_ble_eq_true rfl) dL_law_510
        rcases ite_some h with ⟨b14, h⟩ | ⟨b14, h⟩
        · refine x_if_eq (tgt := 541) dL_law_513 rfl b14 (?_ : Ex _ _ 541 _ _ _ _ _)
          refine x_iconst dL_law_541 rfl (by decide) (?_ : Ex _ _ 542 _ _ _ _ _)
          refine x_istore_n (ls2 := [(7, 0), (21, l1), (0, 0), (0, l3), (0, l4), (3, 0), (0, l6), (0, l7), (0, l8), (0, s0), (0, (Int32.ofInt ((Int32.ofInt l6 >>> (Int32.ofInt 2 &&& 31)).toInt) &&& Int32.ofInt 3).toInt), (3, 0), (3, 0), (3, 0), (3, 0)]) dL_law_542 rfl (Nat.le_of_ble_eq_true rfl) rfl (?_ : Ex _ _ 543 _ _ _ _ _)
          refine x_goto (tgt := 1287) dL_law_543 rfl (?_ : Ex _ _ 1287 _ _ _ _ _)
          refine Ex.wk (ls2 := [(7, 0), (21, l1), (0, 0), (0, l3), (0, l4), (3, 0), (0, l6), (3, 0), (3, 0), (3, 0), (3, 0), (3, 0), (3, 0), (3, 0), (3, 0)]) ⟨Or.inr rfl, Or.inr rfl, Or.inr rfl, Or.inr rfl, Or.inr rfl, Or.inl rfl, Or.inr rfl, Or.inl rfl, Or.inl rfl, Or.inl rfl, Or.inl rfl, Or.inl rfl, Or.inl rfl, Or.inl rfl, Or.inl rfl, trivial⟩ ?_
          exact e_L_law_1287 d hk360 h
        · refine x_if_eqN dL_law_513 (by decide) b14 (?_ : Ex _ _ 516 _ _ _ _ _)
          refine x_aload_n dL_law_516 rfl rfl (Or.inr (by decide)) (?_ : Ex _ _ 517 _ _ _ _ _)
          refine x_iload dL_law_517 rfl (?_ : Ex _ _ 519 _ _ _ _ _)
          refine x_iconst dL_law_519 rfl (by decide) (?_ : Ex _ _ 520 _ _ _ _ _)
          obtain ⟨v15, m16, g17, h⟩ := cal0_some h
          refine cV2 (e_X11_events (d + 45) g17) (cont0 (by decide) (?_ : Ex _ _ 523 _ _ _ _ _)) og_X11_events rfl ml_RL_56 11 rfl rfl c10 im_X11_events se_X11_events (Nat.le_of_ble_eq_true rfl) dL_law_520
          refine x_iconst dL_law_523 rfl (by decide) (?_ : Ex _ _ 524 _ _ _ _ _)
          rcases ite_some h with ⟨b18, h⟩ | ⟨b18, h⟩
          · refine x_icmp_neN dL_law_524 (by decide) (fun hh => hh b18) (?_ : Ex _ _ 527 _ _ _ _ _)
            refine x_aload_n dL_law_527 rfl rfl (Or.inr (by decide)) (?_ : Ex _ _ 528 _ _ _ _ _)
            refine x_iload dL_law_528 rfl (?_ : Ex _ _ 530 _ _ _ _ _)
            obtain ⟨v19, m20, g21, h⟩ := cal0_some h
            refine cV1 (e_X11_parent (d + 46) g21) (cont0 (by decide) (?_ : Ex _ _ 533 _ _ _ _ _)) og_X11_parent rfl ml_RL_75 11 rfl rfl c10 im_X11_parent se_X11_parent (Nat.le_of_ble_eq_true rfl) dL_law_530
            refine x_iconst dL_law_533 rfl (by decide) (?_ : Ex _ _ 534 _ _ _ _ _)
            rcases ite_some h with ⟨b22, h⟩ | ⟨b22, h⟩
            · refine x_icmp_neN dL_law_534 (by decide) (fun hh => hh b22) (?_ : Ex _ _ 537 _ _ _ _ _)
              refine x_iconst dL_law_537 rfl (by decide) (?_ : Ex _ _ 538 _ _ _ _ _)
              refine x_goto (tgt := 542) dL_law_538 rfl (?_ : Ex _ _ 542 _ _ _ _ _)
              refine x_istore_n (ls2 := [(7, 0), (21, l1), (0, 1), (0, l3), (0, l4), (3, 0), (0, l6), (0, l7), (0, l8), (0, s0), (0, (Int32.ofInt ((Int32.ofInt l6 >>> (Int32.ofInt 2 &&& 31)).toInt) &&& Int32.ofInt 3).toInt), (3, 0), (3, 0), (3, 0), (3, 0)]) dL_law_542 rfl (Nat.le_of_ble_eq_true rfl) rfl (?_ : Ex _ _ 543 _ _ _ _ _)
              refine x_goto (tgt := 1287) dL_law_543 rfl (?_ : Ex _ _ 1287 _ _ _ _ _)
              refine Ex.wk (ls2 := [(7, 0), (21, l1), (0, 1), (0, l3), (0, l4), (3, 0), (0, l6), (3, 0), (3, 0), (3, 0), (3, 0), (3, 0), (3, 0), (3, 0), (3, 0)]) ⟨Or.inr rfl, Or.inr rfl, Or.inr rfl, Or.inr rfl, Or.inr rfl, Or.inl rfl, Or.inr rfl, Or.inl rfl, Or.inl rfl, Or.inl rfl, Or.inl rfl, Or.inl rfl, Or.inl rfl, Or.inl rfl, Or.inl rfl, trivial⟩ ?_
              exact e_L_law_1287 d hk360 h
            · refine x_icmp_ne (tgt := 541) dL_law_534 rfl b22 (?_ : Ex _ _ 541 _ _ _ _ _)
              refine x_iconst dL_law_541 rfl (by decide) (?_ : Ex _ _ 542 _ _ _ _ _)
              refine x_istore_n (ls2 := [(7, 0), (21, l1), (0, 0), (0, l3), (0, l4), (3, 0), (0, l6), (0, l7), (0, l8), (0, s0), (0, (Int32.ofInt ((Int32.ofInt l6 >>> (Int32.ofInt 2 &&& 31)).toInt) &&& Int32.ofInt 3).toInt), (3, 0), (3, 0), (3, 0), (3, 0)]) dL_law_542 rfl (Nat.le_of_ble_eq_true rfl) rfl (?_ : Ex _ _ 543 _ _ _ _ _)
              refine x_goto (tgt := 1287) dL_law_543 rfl (?_ : Ex _ _ 1287 _ _ _ _ _)
              refine Ex.wk (ls2 := [(7, 0), (21, l1), (0, 0), (0, l3), (0, l4), (3, 0), (0, l6), (3, 0), (3, 0), (3, 0), (3, 0), (3, 0), (3, 0), (3, 0), (3, 0)]) ⟨Or.inr rfl, Or.inr rfl, Or.inr rfl, Or.inr rfl, Or.inr rfl, Or.inl rfl, Or.inr rfl, Or.inl rfl, Or.inl rfl, Or.inl rfl, Or.inl rfl, Or.inl rfl, Or.inl rfl, Or.inl rfl, Or.inl rfl, trivial⟩ ?_
              exact e_L_law_1287 d hk360 h
          · refine x_icmp_ne (tgt := 541) dL_law_524 rfl b18 (?_ : Ex _ _ 541 _ _ _ _ _)
            refine x_iconst dL_law_541 rfl (by decide) (?_ : Ex _ _ 542 _ _ _ _ _)
            refine x_istore_n (ls2 := [(7, 0), (21, l1), (0, 0), (0, l3), (0, l4), (3, 0), (0, l6), (0, l7), (0, l8), (0, s0), (0, (Int32.ofInt ((Int32.ofInt l6 >>> (Int32.ofInt 2 &&& 31)).toInt) &&& Int32.ofInt 3).toInt), (3, 0), (3, 0), (3, 0), (3, 0)]) dL_law_542 rfl (Nat.le_of_ble_eq_true rfl) rfl (?_ : Ex _ _ 543 _ _ _ _ _)
            refine x_goto (tgt := 1287) dL_law_543 rfl (?_ : Ex _ _ 1287 _ _ _ _ _)
            refine Ex.wk (ls2 := [(7, 0), (21, l1), (0, 0), (0, l3), (0, l4), (3, 0), (0, l6), (3, 0), (3, 0), (3, 0), (3, 0), (3, 0), (3, 0), (3, 0), (3, 0)]) ⟨Or.inr rfl, Or.inr rfl, Or.inr rfl, Or.inr rfl, Or.inr rfl, Or.inl rfl, Or.inr rfl, Or.inl rfl, Or.inl rfl, Or.inl rfl, Or.inl rfl, Or.inl rfl, Or.inl rfl, Or.inl rfl, Or.inl rfl, trivial⟩ ?_
            exact e_L_law_1287 d hk360 h
      · refine x_icmp_ne (tgt := 541) dL_law_504 rfl b9 (?_ : Ex _ _ 541 _ _ _ _ _)
        refine x_iconst dL_law_541 rfl (by decide) (?_ : Ex _ _ 542 _ _ _ _ _)
        refine x_istore_n (ls2 := [(7, 0), (21, l1), (0, 0), (0, l3), (0, l4), (3, 0), (0, l6), (0, l7), (0, l8), (0, s0), (0, (Int32.ofInt ((Int32.ofInt l6 >>> (Int32.ofInt 2 &&& 31)).toInt) &&& Int32.ofInt 3).toInt), (3, 0), (3, 0), (3, 0), (3, 0)]) dL_law_542 rfl (Nat.le_of_ble_eq_true rfl) rfl (?_ : Ex _ _ 543 _ _ _ _ _)
        refine x_goto (tgt := 1287) dL_law_543 rfl (?_ : Ex _ _ 1287 _ _ _ _ _)
        refine Ex.wk (ls2 := [(7, 0), (21, l1), (0, 0), (0, l3), (0, l4), (3, 0), (0, l6), (3, 0), (3, 0), (3, 0), (3, 0), (3, 0), (3, 0), (3, 0), (3, 0)]) ⟨Or.inr rfl, Or.inr rfl, Or.inr rfl, Or.inr rfl, Or.inr rfl, Or.inl rfl, Or.inr rfl, Or.inl rfl, Or.inl rfl, Or.inl rfl, Or.inl rfl, Or.inl rfl, Or.inl rfl, Or.inl rfl, Or.inl rfl, trivial⟩ ?_
        exact e_L_law_1287 d hk360 h
  · refine x_if_ne (tgt := 546) dL_law_466 rfl b1 (?_ : Ex _ _ 546 _ _ _ _ _)
    refine Ex.wk (ls2 := [(7, 0), (21, l1), (3, 0), (0, l3), (0, l4), (3, 0), (0, l6), (0, l7), (3, 0), (0, s0), (0, (Int32.ofInt ((Int32.ofInt l6 >>> (Int32.ofInt 2 &&& 31)).toInt) &&& Int32.ofInt 3).toInt), (3, 0), (3, 0), (3, 0), (3, 0)]) ⟨Or.inr rfl, Or.inr rfl, Or.inl rfl, Or.inr rfl, Or.inr rfl, Or.inl rfl, Or.inr rfl, Or.inr rfl, Or.inl rfl, Or.inr rfl, Or.inr rfl, Or.inl rfl, Or.inl rfl, Or.inl rfl, Or.inl rfl, trivial⟩ ?_
    exact e_L_law_546 d hk360 h
theorem e_L_law_432 (d : Nat) {k360 : Int → Int → Int → Int → Mem → Option R2} (hk360 : ∀ {l1 l2 l3 l4 : Int} {m : Mem} {v : Int} {m' : Mem}, k360 l1 l2 l3 l4 m = some (v, m') → Ex (d + 49) fm_L_law 360 [(7, 0), (21, l1), (0, l2), (0, l3), (0, l4), (3, 0), (3, 0), (3, 0), (3, 0), (3, 0), (3, 0), (3, 0), (3, 0), (3, 0), (3, 0)] [] m (.inl (0, v)) m') {l1 l3 l4 l6 s0 : Int} {m : Mem} {v : Int} {m' : Mem} (h : L_law_432 k360 l1 l3 l4 l6 s0 m = some (v, m')) : Ex (d + 49) fm_L_law 432 [(7, 0), (21, l1), (3, 0), (0, l3), (0, l4), (3, 0), (0, l6), (3, 0), (3, 0), (3, 0), (3, 0), (3, 0), (3, 0), (3, 0), (3, 0)] [(0, s0)] m (.inl (0, v)) m' := by
  unfold L_law_432 at h
  refine x_istore (ls2 := [(7, 0), (21, l1), (3, 0), (0, l3), (0, l4), (3, 0), (0, l6), (0, s0), (3, 0), (3, 0), (3, 0), (3, 0), (3, 0), (3, 0), (3, 0)]) dL_law_432 (Nat.le_of_ble_eq_true rfl) rfl (?_ : Ex _ _ 434 _ _ _ _ _)
  refine x_aload_n dL_law_434 rfl rfl (Or.inr (by decide)) (?_ : Ex _ _ 435 _ _ _ _ _)
  obtain ⟨c1, h⟩ := chk_some h
  obtain ⟨v2, m3, g4, h⟩ := cal_some h
  refine cV0 (e_X11_workflows (d + 48) g4) (contN (by decide) (?_ : Ex _ _ 438 _ _ _ _ _)) og_X11_workflows rfl ml_RL_91 11 rfl rfl c1 im_X11_workflows se_X11_workflows (Nat.le_of_ble_eq_true rfl) dL_law_435
  refine x_istore (ls2 := [(7, 0), (21, l1), (3, 0), (0, l3), (0, l4), (3, 0), (0, l6), (0, s0), (0, v2), (3, 0), (3, 0), (3, 0), (3, 0), (3, 0), (3, 0)]) dL_law_438 (Nat.le_of_ble_eq_true rfl) rfl (?_ : Ex _ _ 440 _ _ _ _ _)
  refine x_iload dL_law_440 rfl (?_ : Ex _ _ 442 _ _ _ _ _)
  rcases ite_some h with ⟨b5, h⟩ | ⟨b5, h⟩
  · refine x_if_neN dL_law_442 (by decide) (fun hh => hh b5) (?_ : Ex _ _ 445 _ _ _ _ _)
    refine x_iconst dL_law_445 rfl (by decide) (?_ : Ex _ _ 446 _ _ _ _ _)
    refine x_goto (tgt := 454) dL_law_446 rfl (?_ : Ex _ _ 454 _ _ _ _ _)
    exact e_L_law_454 d hk360 h
  · refine x_if_ne (tgt := 449) dL_law_442 rfl b5 (?_ : Ex _ _ 449 _ _ _ _ _)
    refine x_iload dL_law_449 rfl (?_ : Ex _ _ 451 _ _ _ _ _)
    refine x_iload dL_law_451 rfl (?_ : Ex _ _ 453 _ _ _ _ _)
    obtain ⟨⟨c6, c7⟩, h⟩ := chk_some h
    refine x_irem dL_law_453 c6 c7 (?_ : Ex _ _ 454 _ _ _ _ _)
    exact e_L_law_454 d hk360 h
theorem e_L_law_406 (d : Nat) {k360 : Int → Int → Int → Int → Mem → Option R2} (hk360 : ∀ {l1 l2 l3 l4 : Int} {m : Mem} {v : Int} {m' : Mem}, k360 l1 l2 l3 l4 m = some (v, m') → Ex (d + 49) fm_L_law 360 [(7, 0), (21, l1), (0, l2), (0, l3), (0, l4), (3, 0), (3, 0), (3, 0), (3, 0), (3, 0), (3, 0), (3, 0), (3, 0), (3, 0), (3, 0)] [] m (.inl (0, v)) m') {l1 l3 l4 s0 : Int} {m : Mem} {v : Int} {m' : Mem} (h : L_law_406 k360 l1 l3 l4 s0 m = some (v, m')) : Ex (d + 49) fm_L_law 406 [(7, 0), (21, l1), (3, 0), (0, l3), (0, l4), (3, 0), (3, 0), (3, 0), (3, 0), (3, 0), (3, 0), (3, 0), (3, 0), (3, 0), (3, 0)] [(0, s0)] m (.inl (0, v)) m' := by
  unfold L_law_406 at h
  refine x_istore (ls2 := [(7, 0), (21, l1), (3, 0), (0, l3), (0, l4), (0, s0), (3, 0), (3, 0), (3, 0), (3, 0), (3, 0), (3, 0), (3, 0), (3, 0), (3, 0)]) dL_law_406 (Nat.le_of_ble_eq_true rfl) rfl (?_ : Ex _ _ 408 _ _ _ _ _)
  refine x_iload dL_law_408 rfl (?_ : Ex _ _ 410 _ _ _ _ _)
  refine x_iconst dL_law_410 rfl (by decide) (?_ : Ex _ _ 411 _ _ _ _ _)
  refine x_ishr dL_law_411 (?_ : Ex _ _ 412 _ _ _ _ _)
  refine x_ldc (x := 268435455) kc_RL_115 dL_law_412 (by decide +kernel) (by decide) (?_ : Ex _ _ 414 _ _ _ _ _)
  refine x_iand dL_law_414 (?_ : Ex _ _ 415 _ _ _ _ _)
  refine x_istore (ls2 := [(7, 0), (21, l1), (3, 0), (0, l3), (0, l4), (0, s0), (0, (Int32.ofInt ((Int32.ofInt s0 >>> (Int32.ofInt 4 &&& 31)).toInt) &&& Int32.ofInt 268435455).toInt), (3, 0), (3, 0), (3, 0), (3, 0), (3, 0), (3, 0), (3, 0), (3, 0)]) dL_law_415 (Nat.le_of_ble_eq_true rfl) rfl (?_ : Ex _ _ 417 _ _ _ _ _)
  refine x_iload dL_law_417 rfl (?_ : Ex _ _ 419 _ _ _ _ _)
  refine x_iconst dL_law_419 rfl (by decide) (?_ : Ex _ _ 420 _ _ _ _ _)
  rcases ite_some h with ⟨b1, h⟩ | ⟨b1, h⟩
  · refine x_icmp_ge (tgt := 427) dL_law_420 rfl b1 (?_ : Ex _ _ 427 _ _ _ _ _)
    refine x_iload dL_law_427 rfl (?_ : Ex _ _ 429 _ _ _ _ _)
    refine x_bipush dL_law_429 kb_15 (by decide) (?_ : Ex _ _ 431 _ _ _ _ _)
    refine x_iand dL_law_431 (?_ : Ex _ _ 432 _ _ _ _ _)
    refine Ex.wk (ls2 := [(7, 0), (21, l1), (3, 0), (0, l3), (0, l4), (3, 0), (0, (Int32.ofInt ((Int32.ofInt s0 >>> (Int32.ofInt 4 &&& 31)).toInt) &&& Int32.ofInt 268435455).toInt), (3, 0), (3, 0), (3, 0), (3, 0), (3, 0), (3, 0), (3, 0), (3, 0)]) ⟨Or.inr rfl, Or.inr rfl, Or.inl rfl, Or.inr rfl, Or.inr rfl, Or.inl rfl, Or.inr rfl, Or.inl rfl, Or.inl rfl, Or.inl rfl, Or.inl rfl, Or.inl rfl, Or.inl rfl, Or.inl rfl, Or.inl rfl, trivial⟩ ?_
    exact e_L_law_432 d hk360 h
  · refine x_icmp_geN dL_law_420 (by decide) b1 (?_ : Ex _ _ 423 _ _ _ _ _)
    refine x_iconst dL_law_423 rfl (by decide) (?_ : Ex _ _ 424 _ _ _ _ _)
    refine x_goto (tgt := 432) dL_law_424 rfl (?_ : Ex _ _ 432 _ _ _ _ _)
    refine Ex.wk (ls2 := [(7, 0), (21, l1), (3, 0), (0, l3), (0, l4), (3, 0), (0, (Int32.ofInt ((Int32.ofInt s0 >>> (Int32.ofInt 4 &&& 31)).toInt) &&& Int32.ofInt 268435455).toInt), (3, 0), (3, 0), (3, 0), (3, 0), (3, 0), (3, 0), (3, 0), (3, 0)]) ⟨Or.inr rfl, Or.inr rfl, Or.inl rfl, Or.inr rfl, Or.inr rfl, Or.inl rfl, Or.inr rfl, Or.inl rfl, Or.inl rfl, Or.inl rfl, Or.inl rfl, Or.inl rfl, Or.inl rfl, Or.inl rfl, Or.inl rfl, trivial⟩ ?_
    exact e_L_law_432 d hk360 h
theorem e_L_law_360 (d : Nat) : ∀ (n : Nat) {l1 l2 l3 l4 : Int} {m : Mem} {v : Int} {m' : Mem}, L_law_360 n l1 l2 l3 l4 m = some (v, m') → Ex (d + 49) fm_L_law 360 [(7, 0), (21, l1), (0, l2), (0, l3), (0, l4), (3, 0), (3, 0), (3, 0), (3, 0), (3, 0), (3, 0), (3, 0), (3, 0), (3, 0), (3, 0)] [] m (.inl (0, v)) m' := by
  intro n
  induction n with
  | zero =>
    intro l1 l2 l3 l4 m v m' h
    have h : (none : Option R2) = some _ := h
    cases h
  | succ n ih =>
    intro l1 l2 l3 l4 m v m' h
    rw [L_law_360] at h
    refine x_iload dL_law_360 rfl (?_ : Ex _ _ 362 _ _ _ _ _)
    refine x_iload_n dL_law_362 rfl rfl (?_ : Ex _ _ 363 _ _ _ _ _)
    rcases ite_some h with ⟨b1, h⟩ | ⟨b1, h⟩
    · refine x_icmp_ge (tgt := 1417) dL_law_363 rfl b1 (?_ : Ex _ _ 1417 _ _ _ _ _)
      refine x_iload_n dL_law_1417 rfl rfl (?_ : Ex _ _ 1418 _ _ _ _ _)
      cases h
      exact x_ret dL_law_1418 (by decide : (0 : Int) ≠ 3)
    · refine x_icmp_geN dL_law_363 (by decide) b1 (?_ : Ex _ _ 366 _ _ _ _ _)
      refine x_iload_n dL_law_366 rfl rfl (?_ : Ex _ _ 367 _ _ _ _ _)
      rcases ite_some h with ⟨b2, h⟩ | ⟨b2, h⟩
      · refine x_if_eq (tgt := 1417) dL_law_367 rfl b2 (?_ : Ex _ _ 1417 _ _ _ _ _)
        refine x_iload_n dL_law_1417 rfl rfl (?_ : Ex _ _ 1418 _ _ _ _ _)
        cases h
        exact x_ret dL_law_1418 (by decide : (0 : Int) ≠ 3)
      · refine x_if_eqN dL_law_367 (by decide) b2 (?_ : Ex _ _ 370 _ _ _ _ _)
        refine x_iload dL_law_370 rfl (?_ : Ex _ _ 372 _ _ _ _ _)
        refine x_iconst dL_law_372 rfl (by decide) (?_ : Ex _ _ 373 _ _ _ _ _)
        obtain ⟨c3, h⟩ := chk_some h
        refine x_iadd dL_law_373 c3 (?_ : Ex _ _ 374 _ _ _ _ _)
        refine x_aload_n dL_law_374 rfl rfl (Or.inl rfl) (?_ : Ex _ _ 375 _ _ _ _ _)
        obtain ⟨c4, h⟩ := chk_some h
        refine x_slen c4 dL_law_375 (?_ : Ex _ _ 376 _ _ _ _ _)
        rcases ite_some h with ⟨b5, h⟩ | ⟨b5, h⟩
        · refine x_icmp_ge (tgt := 388) dL_law_376 rfl b5 (?_ : Ex _ _ 388 _ _ _ _ _)
          refine x_ldc (x := 3350017) kc_RL_113 dL_law_388 (by decide +kernel) (by decide) (?_ : Ex _ _ 390 _ _ _ _ _)
          refine x_iload dL_law_390 rfl (?_ : Ex _ _ 392 _ _ _ _ _)
          refine x_imulW dL_law_392 (?_ : Ex _ _ 393 _ _ _ _ _)
          refine x_iload dL_law_393 rfl (?_ : Ex _ _ 395 _ _ _ _ _)
          refine x_imulW dL_law_395 (?_ : Ex _ _ 396 _ _ _ _ _)
          refine x_ldc (x := 116027) kc_RL_114 dL_law_396 (by decide +kernel) (by decide) (?_ : Ex _ _ 398 _ _ _ _ _)
          refine x_iload dL_law_398 rfl (?_ : Ex _ _ 400 _ _ _ _ _)
          refine x_imulW dL_law_400 (?_ : Ex _ _ 401 _ _ _ _ _)
          refine x_iaddW dL_law_401 (?_ : Ex _ _ 402 _ _ _ _ _)
          refine x_sipush dL_law_402 ks_203 (by decide) (?_ : Ex _ _ 405 _ _ _ _ _)
          refine x_iaddW dL_law_405 (?_ : Ex _ _ 406 _ _ _ _ _)
          refine Ex.wk (ls2 := [(7, 0), (21, l1), (3, 0), (0, l3), (0, l4), (3, 0), (3, 0), (3, 0), (3, 0), (3, 0), (3, 0), (3, 0), (3, 0), (3, 0), (3, 0)]) ⟨Or.inr rfl, Or.inr rfl, Or.inl rfl, Or.inr rfl, Or.inr rfl, Or.inl rfl, Or.inl rfl, Or.inl rfl, Or.inl rfl, Or.inl rfl, Or.inl rfl, Or.inl rfl, Or.inl rfl, Or.inl rfl, Or.inl rfl, trivial⟩ ?_
          exact e_L_law_406 d ih h
        · refine x_icmp_geN dL_law_376 (by decide) b5 (?_ : Ex _ _ 379 _ _ _ _ _)
          refine x_aload_n dL_law_379 rfl rfl (Or.inl rfl) (?_ : Ex _ _ 380 _ _ _ _ _)
          refine x_iload dL_law_380 rfl (?_ : Ex _ _ 382 _ _ _ _ _)
          refine x_iconst dL_law_382 rfl (by decide) (?_ : Ex _ _ 383 _ _ _ _ _)
          obtain ⟨c6, h⟩ := chk_some h
          refine x_iadd dL_law_383 c6 (?_ : Ex _ _ 384 _ _ _ _ _)
          obtain ⟨⟨c7, c8, c9⟩, h⟩ := chk_some h
          refine x_sld c7 c8 c9 dL_law_384 (?_ : Ex _ _ 385 _ _ _ _ _)
          refine x_goto (tgt := 406) dL_law_385 rfl (?_ : Ex _ _ 406 _ _ _ _ _)
          refine Ex.wk (ls2 := [(7, 0), (21, l1), (3, 0), (0, l3), (0, l4), (3, 0), (3, 0), (3, 0), (3, 0), (3, 0), (3, 0), (3, 0), (3, 0), (3, 0), (3, 0)]) ⟨Or.inr rfl, Or.inr rfl, Or.inl rfl, Or.inr rfl, Or.inr rfl, Or.inl rfl, Or.inl rfl, Or.inl rfl, Or.inl rfl, Or.inl rfl, Or.inl rfl, Or.inl rfl, Or.inl rfl, Or.inl rfl, Or.inl rfl, trivial⟩ ?_
          exact e_L_law_406 d ih h
theorem e_L_law_327 (d : Nat) {l1 l2 : Int} {m : Mem} {v : Int} {m' : Mem} (h : L_law_327 l1 l2 m = some (v, m')) : Ex (d + 49) fm_L_law 327 [(7, 0), (21, l1), (0, l2), (3, 0), (3, 0), (3, 0), (3, 0), (3, 0), (3, 0), (3, 0), (3, 0), (3, 0), (3, 0), (3, 0), (3, 0)] [] m (.inl (0, v)) m' := by
  unfold L_law_327 at h
  refine x_aload_n dL_law_327 rfl rfl (Or.inl rfl) (?_ : Ex _ _ 328 _ _ _ _ _)
  obtain ⟨c1, h⟩ := chk_some h
  refine x_slen c1 dL_law_328 (?_ : Ex _ _ 329 _ _ _ _ _)
  refine x_bipush dL_law_329 kb_40 (by decide) (?_ : Ex _ _ 331 _ _ _ _ _)
  rcases ite_some h with ⟨b2, h⟩ | ⟨b2, h⟩
  · refine x_icmp_ge (tgt := 339) dL_law_331 rfl b2 (?_ : Ex _ _ 339 _ _ _ _ _)
    refine x_aload_n dL_law_339 rfl rfl (Or.inl rfl) (?_ : Ex _ _ 340 _ _ _ _ _)
    obtain ⟨c3, h⟩ := chk_some h
    refine x_slen c3 dL_law_340 (?_ : Ex _ _ 341 _ _ _ _ _)
    refine x_bipush dL_law_341 kb_80 (by decide) (?_ : Ex _ _ 343 _ _ _ _ _)
    rcases ite_some h with ⟨b4, h⟩ | ⟨b4, h⟩
    · refine x_icmp_ge (tgt := 353) dL_law_343 rfl b4 (?_ : Ex _ _ 353 _ _ _ _ _)
      refine x_sipush dL_law_353 ks_180 (by decide) (?_ : Ex _ _ 356 _ _ _ _ _)
      refine x_istore_n (ls2 := [(7, 0), (21, l1), (0, l2), (0, 180), (3, 0), (3, 0), (3, 0), (3, 0), (3, 0), (3, 0), (3, 0), (3, 0), (3, 0), (3, 0), (3, 0)]) dL_law_356 rfl (Nat.le_of_ble_eq_true rfl) rfl (?_ : Ex _ _ 357 _ _ _ _ _)
      refine x_iconst dL_law_357 rfl (by decide) (?_ : Ex _ _ 358 _ _ _ _ _)
      refine x_istore (ls2 := [(7, 0), (21, l1), (0, l2), (0, 180), (0, 0), (3, 0), (3, 0), (3, 0), (3, 0), (3, 0), (3, 0), (3, 0), (3, 0), (3, 0), (3, 0)]) dL_law_358 (Nat.le_of_ble_eq_true rfl) rfl (?_ : Ex _ _ 360 _ _ _ _ _)
      exact e_L_law_360 d fuel9 h
    · refine x_icmp_geN dL_law_343 (by decide) b4 (?_ : Ex _ _ 346 _ _ _ _ _)
      refine x_iconst dL_law_346 rfl (by decide) (?_ : Ex _ _ 347 _ _ _ _ _)
      refine x_aload_n dL_law_347 rfl rfl (Or.inl rfl) (?_ : Ex _ _ 348 _ _ _ _ _)
      obtain ⟨c5, h⟩ := chk_some h
      refine x_slen c5 dL_law_348 (?_ : Ex _ _ 349 _ _ _ _ _)
      obtain ⟨c6, h⟩ := chk_some h
      refine x_imul dL_law_349 c6 (?_ : Ex _ _ 350 _ _ _ _ _)
      refine x_goto (tgt := 356) dL_law_350 rfl (?_ : Ex _ _ 356 _ _ _ _ _)
      refine x_istore_n (ls2 := [(7, 0), (21, l1), (0, l2), (0, (2 * m (-4) 0)), (3, 0), (3, 0), (3, 0), (3, 0), (3, 0), (3, 0), (3, 0), (3, 0), (3, 0), (3, 0), (3, 0)]) dL_law_356 rfl (Nat.le_of_ble_eq_true rfl) rfl (?_ : Ex _ _ 357 _ _ _ _ _)
      refine x_iconst dL_law_357 rfl (by decide) (?_ : Ex _ _ 358 _ _ _ _ _)
      refine x_istore (ls2 := [(7, 0), (21, l1), (0, l2), (0, (2 * m (-4) 0)), (0, 0), (3, 0), (3, 0), (3, 0), (3, 0), (3, 0), (3, 0), (3, 0), (3, 0), (3, 0), (3, 0)]) dL_law_358 (Nat.le_of_ble_eq_true rfl) rfl (?_ : Ex _ _ 360 _ _ _ _ _)
      exact e_L_law_360 d fuel9 h
  · refine x_icmp_geN dL_law_331 (by decide) b2 (?_ : Ex _ _ 334 _ _ _ _ _)
    refine x_bipush dL_law_334 kb_120 (by decide) (?_ : Ex _ _ 336 _ _ _ _ _)
    refine x_goto (tgt := 356) dL_law_336 rfl (?_ : Ex _ _ 356 _ _ _ _ _)
    refine x_istore_n (ls2 := [(7, 0), (21, l1), (0, l2), (0, 120), (3, 0), (3, 0), (3, 0), (3, 0), (3, 0), (3, 0), (3, 0), (3, 0), (3, 0), (3, 0), (3, 0)]) dL_law_356 rfl (Nat.le_of_ble_eq_true rfl) rfl (?_ : Ex _ _ 357 _ _ _ _ _)
    refine x_iconst dL_law_357 rfl (by decide) (?_ : Ex _ _ 358 _ _ _ _ _)
    refine x_istore (ls2 := [(7, 0), (21, l1), (0, l2), (0, 120), (0, 0), (3, 0), (3, 0), (3, 0), (3, 0), (3, 0), (3, 0), (3, 0), (3, 0), (3, 0), (3, 0)]) dL_law_358 (Nat.le_of_ble_eq_true rfl) rfl (?_ : Ex _ _ 360 _ _ _ _ _)
    exact e_L_law_360 d fuel9 h
theorem e_L_law_220 (d : Nat) {k64 : Int → Int → Int → Int → Int → Mem → Option R2} (hk64 : ∀ {l1 l2 l3 l4 l5 : Int} {m : Mem} {v : Int} {m' : Mem}, k64 l1 l2 l3 l4 l5 m = some (v, m') → Ex (d + 49) fm_L_law 64 [(7, 0), (21, l1), (0, l2), (0, l3), (0, l4), (0, l5), (3, 0), (3, 0), (3, 0), (3, 0), (3, 0), (3, 0), (3, 0), (3, 0), (3, 0)] [] m (.inl (0, v)) m') {l1 l2 l3 l4 l5 l6 : Int} {m : Mem} {v : Int} {m' : Mem} (h : L_law_220 k64 l1 l2 l3 l4 l5 l6 m = some (v, m')) : Ex (d + 49) fm_L_law 220 [(7, 0), (21, l1), (0, l2), (0, l3), (0, l4), (0, l5), (0, l6), (3, 0), (3, 0), (3, 0), (3, 0), (3, 0), (3, 0), (3, 0), (3, 0)] [] m (.inl (0, v)) m' := by
  unfold L_law_220 at h
  refine x_aload_n dL_law_220 rfl rfl (Or.inr (by decide)) (?_ : Ex _ _ 221 _ _ _ _ _)
  refine x_iconst dL_law_221 rfl (by decide) (?_ : Ex _ _ 222 _ _ _ _ _)
  refine x_iload_n dL_law_222 rfl rfl (?_ : Ex _ _ 223 _ _ _ _ _)
  refine x_iconst dL_law_223 rfl (by decide) (?_ : Ex _ _ 224 _ _ _ _ _)
  refine x_iconst dL_law_224 rfl (by decide) (?_ : Ex _ _ 225 _ _ _ _ _)
  refine x_iconst dL_law_225 rfl (by decide) (?_ : Ex _ _ 226 _ _ _ _ _)
  obtain ⟨v1, m2, g3, h⟩ := cal_some h
  refine cW6 (e_L_on (d + 1) g3) (by decide) (?_ : Ex _ _ 229 _ _ _ _ _) og_L_on (List.cons_ne_nil _ _) ml_RL_85 sm_L_on (Nat.le_of_ble_eq_true rfl) dL_law_226
  refine x_istore (ls2 := [(7, 0), (21, l1), (0, l2), (0, l3), (0, l4), (0, l5), (0, l6), (0, v1), (3, 0), (3, 0), (3, 0), (3, 0), (3, 0), (3, 0), (3, 0)]) dL_law_229 (Nat.le_of_ble_eq_true rfl) rfl (?_ : Ex _ _ 231 _ _ _ _ _)
  refine x_iload dL_law_231 rfl (?_ : Ex _ _ 233 _ _ _ _ _)
  refine x_ldc (x := (-90003)) kc_RL_55 dL_law_233 (by decide +kernel) (by decide) (?_ : Ex _ _ 235 _ _ _ _ _)
  rcases ite_some h with ⟨b4, h⟩ | ⟨b4, h⟩
  · refine x_icmp_neN dL_law_235 (by decide) (fun hh => hh b4) (?_ : Ex _ _ 238 _ _ _ _ _)
    refine x_iload_n dL_law_238 rfl rfl (?_ : Ex _ _ 239 _ _ _ _ _)
    rcases ite_some h with ⟨b16, h⟩ | ⟨b16, h⟩
    · refine x_if_eq (tgt := 283) dL_law_239 rfl b16 (?_ : Ex _ _ 283 _ _ _ _ _)
      refine x_iconst dL_law_283 rfl (by decide) (?_ : Ex _ _ 284 _ _ _ _ _)
      refine x_istore_n (ls2 := [(7, 0), (21, l1), (0, 0), (0, l3), (0, l4), (0, l5), (0, l6), (0, v1), (3, 0), (3, 0), (3, 0), (3, 0), (3, 0), (3, 0), (3, 0)]) dL_law_284 rfl (Nat.le_of_ble_eq_true rfl) rfl (?_ : Ex _ _ 285 _ _ _ _ _)
      refine x_goto (tgt := 315) dL_law_285 rfl (?_ : Ex _ _ 315 _ _ _ _ _)
      obtain ⟨c17, h⟩ := chk_some h
      refine x_iinc (ls2 := [(7, 0), (21, l1), (0, 0), (0, l3), (0, l4), (0, (l5 + 1)), (0, l6), (0, v1), (3, 0), (3, 0), (3, 0), (3, 0), (3, 0), (3, 0), (3, 0)]) dL_law_315 rfl c17 rfl (?_ : Ex _ _ 318 _ _ _ _ _)
      refine x_goto (tgt := 64) dL_law_318 rfl (?_ : Ex _ _ 64 _ _ _ _ _)
      refine Ex.wk (ls2 := [(7, 0), (21, l1), (0, 0), (0, l3), (0, l4), (0, (l5 + 1)), (3, 0), (3, 0), (3, 0), (3, 0), (3, 0), (3, 0), (3, 0), (3, 0), (3, 0)]) ⟨Or.inr rfl, Or.inr rfl, Or.inr rfl, Or.inr rfl, Or.inr rfl, Or.inr rfl, Or.inl rfl, Or.inl rfl, Or.inl rfl, Or.inl rfl, Or.inl rfl, Or.inl rfl, Or.inl rfl, Or.inl rfl, Or.inl rfl, trivial⟩ ?_
      exact hk64 h
    · refine x_if_eqN dL_law_239 (by decide) b16 (?_ : Ex _ _ 242 _ _ _ _ _)
      refine x_aload_n dL_law_242 rfl rfl (Or.inr (by decide)) (?_ : Ex _ _ 243 _ _ _ _ _)
      refine x_iload_n dL_law_243 rfl rfl (?_ : Ex _ _ 244 _ _ _ _ _)
      obtain ⟨c18, h⟩ := chk_some h
      obtain ⟨v19, m20, g21, h⟩ := cal0_some h
      refine cV1 (e_X11_forget (d + 46) g21) (cont0 (by decide) (?_ : Ex _ _ 247 _ _ _ _ _)) og_X11_forget rfl ml_RL_107 11 rfl rfl c18 im_X11_forget se_X11_forget (Nat.le_of_ble_eq_true rfl) dL_law_244
      refine x_iload dL_law_247 rfl (?_ : Ex _ _ 249 _ _ _ _ _)
      rcases ite_some h with ⟨b22, h⟩ | ⟨b22, h⟩
      · refine x_icmp_neN dL_law_249 (by decide) (fun hh => hh b22) (?_ : Ex _ _ 252 _ _ _ _ _)
        refine x_aload_n dL_law_252 rfl rfl (Or.inr (by decide)) (?_ : Ex _ _ 253 _ _ _ _ _)
        refine x_iconst dL_law_253 rfl (by decide) (?_ : Ex _ _ 254 _ _ _ _ _)
        refine x_iload_n dL_law_254 rfl rfl (?_ : Ex _ _ 255 _ _ _ _ _)
        refine x_iconst dL_law_255 rfl (by decide) (?_ : Ex _ _ 256 _ _ _ _ _)
        refine x_iload_n dL_law_256 rfl rfl (?_ : Ex _ _ 257 _ _ _ _ _)
        refine x_iconst dL_law_257 rfl (by decide) (?_ : Ex _ _ 258 _ _ _ _ _)
        obtain ⟨v24, m25, g26, h⟩ := cal_some h
        refine cW6 (e_L_on (d + 1) g26) (by decide) (?_ : Ex _ _ 261 _ _ _ _ _) og_L_on (List.cons_ne_nil _ _) ml_RL_85 sm_L_on (Nat.le_of_ble_eq_true rfl) dL_law_258
        refine x_iconst dL_law_261 rfl (by decide) (?_ : Ex _ _ 262 _ _ _ _ _)
        rcases ite_some h with ⟨b27, h⟩ | ⟨b27, h⟩
        · refine x_icmp_neN dL_law_262 (by decide) (fun hh => hh b27) (?_ : Ex _ _ 265 _ _ _ _ _)
          refine x_aload_n dL_law_265 rfl rfl (Or.inr (by decide)) (?_ : Ex _ _ 266 _ _ _ _ _)
          refine x_iconst dL_law_266 rfl (by decide) (?_ : Ex _ _ 267 _ _ _ _ _)
          refine x_iload_n dL_law_267 rfl rfl (?_ : Ex _ _ 268 _ _ _ _ _)
          refine x_iconst dL_law_268 rfl (by decide) (?_ : Ex _ _ 269 _ _ _ _ _)
          refine x_iconst dL_law_269 rfl (by decide) (?_ : Ex _ _ 270 _ _ _ _ _)
          refine x_iconst dL_law_270 rfl (by decide) (?_ : Ex _ _ 271 _ _ _ _ _)
          obtain ⟨v29, m30, g31, h⟩ := cal_some h
          refine cW6 (e_L_on (d + 1) g31) (by decide) (?_ : Ex _ _ 274 _ _ _ _ _) og_L_on (List.cons_ne_nil _ _) ml_RL_85 sm_L_on (Nat.le_of_ble_eq_true rfl) dL_law_271
          refine x_iload dL_law_274 rfl (?_ : Ex _ _ 276 _ _ _ _ _)
          rcases ite_some h with ⟨b32, h⟩ | ⟨b32, h⟩
          · refine x_icmp_neN dL_law_276 (by decide) (fun hh => hh b32) (?_ : Ex _ _ 279 _ _ _ _ _)
            refine x_iconst dL_law_279 rfl (by decide) (?_ : Ex _ _ 280 _ _ _ _ _)
            refine x_goto (tgt := 284) dL_law_280 rfl (?_ : Ex _ _ 284 _ _ _ _ _)
            refine x_istore_n (ls2 := [(7, 0), (21, l1), (0, 1), (0, l3), (0, l4), (0, l5), (0, l6), (0, v1), (3, 0), (3, 0), (3, 0), (3, 0), (3, 0), (3, 0), (3, 0)]) dL_law_284 rfl (Nat.le_of_ble_eq_true rfl) rfl (?_ : Ex _ _ 285 _ _ _ _ _)
            refine x_goto (tgt := 315) dL_law_285 rfl (?_ : Ex _ _ 315 _ _ _ _ _)
            obtain ⟨c34, h⟩ := chk_some h
            refine x_iinc (ls2 := [(7, 0), (21, l1), (0, 1), (0, l3), (0, l4), (0, (l5 + 1)), (0, l6), (0, v1), (3, 0), (3, 0), (3, 0), (3, 0), (3, 0), (3, 0), (3, 0)]) dL_law_315 rfl c34 rfl (?_ : Ex _ _ 318 _ _ _ _ _)
            refine x_goto (tgt := 64) dL_law_318 rfl (?_ : Ex _ _ 64 _ _ _ _ _)
            refine Ex.wk (ls2 := [(7, 0), (21, l1), (0, 1), (0, l3), (0, l4), (0, (l5 + 1)), (3, 0), (3, 0), (3, 0), (3, 0), (3, 0), (3, 0), (3, 0), (3, 0), (3, 0)]) ⟨Or.inr rfl, Or.inr rfl, Or.inr rfl, Or.inr rfl, Or.inr rfl, Or.inr rfl, Or.inl rfl, Or.inl rfl, Or.inl rfl, Or.inl rfl, Or.inl rfl, Or.inl rfl, Or.inl rfl, Or.inl rfl, Or.inl rfl, trivial⟩ ?_
            exact hk64 h
          · refine x_icmp_ne (tgt := 283) dL_law_276 rfl b32 (?_ : Ex _ _ 283 _ _ _ _ _)
            refine x_iconst dL_law_283 rfl (by decide) (?_ : Ex _ _ 284 _ _ _ _ _)
            refine x_istore_n (ls2 := [(7, 0), (21, l1), (0, 0), (0, l3), (0, l4), (0, l5), (0, l6), (0, v1), (3, 0), (3, 0), (3, 0), (3, 0), (3, 0), (3, 0), (3, 0)]) dL_law_284 rfl (Nat.le_of_ble_eq_true rfl) rfl (?_ : Ex _ _ 285 _ _ _ _ _)
            refine x_goto (tgt := 315) dL_law_285 rfl (?_ : Ex _ _ 315 _ _ _ _ _)
            obtain ⟨c33, h⟩ := chk_some h
            refine x_iinc (ls2 := [(7, 0), (21, l1), (0, 0), (0, l3), (0, l4), (0, (l5 + 1)), (0, l6), (0, v1), (3, 0), (3, 0), (3, 0), (3, 0), (3, 0), (3, 0), (3, 0)]) dL_law_315 rfl c33 rfl (?_ : Ex _ _ 318 _ _ _ _ _)
            refine x_goto (tgt := 64) dL_law_318 rfl (?_ : Ex _ _ 64 _ _ _ _ _)
            refine Ex.wk (ls2 := [(7, 0), (21, l1), (0, 0), (0, l3), (0, l4), (0, (l5 + 1)), (3, 0), (3, 0), (3, 0), (3, 0), (3, 0), (3, 0), (3, 0), (3, 0), (3, 0)]) ⟨Or.inr rfl, Or.inr rfl, Or.inr rfl, Or.inr rfl, Or.inr rfl, Or.inr rfl, Or.inl rfl, Or.inl rfl, Or.inl rfl, Or.inl rfl, Or.inl rfl, Or.inl rfl, Or.inl rfl, Or.inl rfl, Or.inl rfl, trivial⟩ ?_
            exact hk64 h
        · refine x_icmp_ne (tgt := 283) dL_law_262 rfl b27 (?_ : Ex _ _ 283 _ _ _ _ _)
          refine x_iconst dL_law_283 rfl (by decide) (?_ : Ex _ _ 284 _ _ _ _ _)
          refine x_istore_n (ls2 := [(7, 0), (21, l1), (0, 0), (0, l3), (0, l4), (0, l5), (0, l6), (0, v1), (3, 0), (3, 0), (3, 0), (3, 0), (3, 0), (3, 0), (3, 0)]) dL_law_284 rfl (Nat.le_of_ble_eq_true rfl) rfl (?_ : Ex _ _ 285 _ _ _ _ _)
          refine x_goto (tgt := 315) dL_law_285 rfl (?_ : Ex _ _ 315 _ _ _ _ _)
          obtain ⟨c28, h⟩ := chk_some h
          refine x_iinc (ls2 := [(7, 0), (21, l1), (0, 0), (0, l3), (0, l4), (0, (l5 + 1)), (0, l6), (0, v1), (3, 0), (3, 0), (3, 0), (3, 0), (3, 0), (3, 0), (3, 0)]) dL_law_315 rfl c28 rfl (?_ : Ex _ _ 318 _ _ _ _ _)
          refine x_goto (tgt := 64) dL_law_318 rfl (?_ : Ex _ _ 64 _ _ _ _ _)
          refine Ex.wk (ls2 := [(7, 0), (21, l1), (0, 0), (0, l3), (0, l4), (0, (l5 + 1)), (3, 0), (3, 0), (3, 0), (3, 0), (3, 0), (3, 0), (3, 0), (3, 0), (3, 0)]) ⟨Or.inr rfl, Or.inr rfl, Or.inr rfl, Or.inr rfl, Or.inr rfl, Or.inr rfl, Or.inl rfl, Or.inl rfl, Or.inl rfl, Or.inl rfl, Or.inl rfl, Or.inl rfl, Or.inl rfl, Or.inl rfl, Or.inl rfl, trivial⟩ ?_
          exact hk64 h
      · refine x_icmp_ne (tgt := 283) dL_law_249 rfl b22 (?_ : Ex _ _ 283 _ _ _ _ _)
        refine x_iconst dL_law_283 rfl (by decide) (?_ : Ex _ _ 284 _ _ _ _ _)
        refine x_istore_n (ls2 := [(7, 0), (21, l1), (0, 0), (0, l3), (0, l4), (0, l5), (0, l6), (0, v1), (3, 0), (3, 0), (3, 0), (3, 0), (3, 0), (3, 0), (3, 0)]) dL_law_284 rfl (Nat.le_of_ble_eq_true rfl) rfl (?_ : Ex _ _ 285 _ _ _ _ _)
        refine x_goto (tgt := 315) dL_law_285 rfl (?_ : Ex _ _ 315 _ _ _ _ _)
        obtain ⟨c23, h⟩ := chk_some h
        refine x_iinc (ls2 := [(7, 0), (21, l1), (0, 0), (0, l3), (0, l4), (0, (l5 + 1)), (0, l6), (0, v1), (3, 0), (3, 0), (3, 0), (3, 0), (3, 0), (3, 0), (3, 0)]) dL_law_315 rfl c23 rfl (?_ : Ex _ _ 318 _ _ _ _ _)
        refine x_goto (tgt := 64) dL_law_318 rfl (?_ : Ex _ _ 64 _ _ _ _ _)
        refine Ex.wk (ls2 := [(7, 0), (21, l1), (0, 0), (0, l3), (0, l4), (0, (l5 + 1)), (3, 0), (3, 0), (3, 0), (3, 0), (3, 0), (3, 0), (3, 0), (3, 0), (3, 0)]) ⟨Or.inr rfl, Or.inr rfl, Or.inr rfl, Or.inr rfl, Or.inr rfl, Or.inr rfl, Or.inl rfl, Or.inl rfl, Or.inl rfl, Or.inl rfl, Or.inl rfl, Or.inl rfl, Or.inl rfl, Or.inl rfl, Or.inl rfl, trivial⟩ ?_
        exact hk64 h
  · refine x_icmp_ne (tgt := 288) dL_law_235 rfl b4 (?_ : Ex _ _ 288 _ _ _ _ _)
    refine x_iload_n dL_law_288 rfl rfl (?_ : Ex _ _ 289 _ _ _ _ _)
    rcases ite_some h with ⟨b5, h⟩ | ⟨b5, h⟩
    · refine x_if_eq (tgt := 313) dL_law_289 rfl b5 (?_ : Ex _ _ 313 _ _ _ _ _)
      refine x_iconst dL_law_313 rfl (by decide) (?_ : Ex _ _ 314 _ _ _ _ _)
      refine x_istore_n (ls2 := [(7, 0), (21, l1), (0, 0), (0, l3), (0, l4), (0, l5), (0, l6), (0, v1), (3, 0), (3, 0), (3, 0), (3, 0), (3, 0), (3, 0), (3, 0)]) dL_law_314 rfl (Nat.le_of_ble_eq_true rfl) rfl (?_ : Ex _ _ 315 _ _ _ _ _)
      obtain ⟨c6, h⟩ := chk_some h
      refine x_iinc (ls2 := [(7, 0), (21, l1), (0, 0), (0, l3), (0, l4), (0, (l5 + 1)), (0, l6), (0, v1), (3, 0), (3, 0), (3, 0), (3, 0), (3, 0), (3, 0), (3, 0)]) dL_law_315 rfl c6 rfl (?_ : Ex _ _ 318 _ _ _ _ _)
      refine x_goto (tgt := 64) dL_law_318 rfl (?_ : Ex _ _ 64 _ _ _ _ _)
      refine Ex.wk (ls2 := [(7, 0), (21, l1), (0, 0), (0, l3), (0, l4), (0, (l5 + 1)), (3, 0), (3, 0), (3, 0), (3, 0), (3, 0), (3, 0), (3, 0), (3, 0), (3, 0)]) ⟨Or.inr rfl, Or.inr rfl, Or.inr rfl, Or.inr rfl, Or.inr rfl, Or.inr rfl, Or.inl rfl, Or.inl rfl, Or.inl rfl, Or.inl rfl, Or.inl rfl, Or.inl rfl, Or.inl rfl, Or.inl rfl, Or.inl rfl, trivial⟩ ?_
      exact hk64 h
    · refine x_if_eqN dL_law_289 (by decide) b5 (?_ : Ex _ _ 292 _ _ _ _ _)
      refine x_iload dL_law_292 rfl (?_ : Ex _ _ 294 _ _ _ _ _)
      refine x_iload dL_law_294 rfl (?_ : Ex _ _ 296 _ _ _ _ _)
      rcases ite_some h with ⟨b7, h⟩ | ⟨b7, h⟩
      · refine x_icmp_neN dL_law_296 (by decide) (fun hh => hh b7) (?_ : Ex _ _ 299 _ _ _ _ _)
        refine x_aload_n dL_law_299 rfl rfl (Or.inr (by decide)) (?_ : Ex _ _ 300 _ _ _ _ _)
        refine x_iload_n dL_law_300 rfl rfl (?_ : Ex _ _ 301 _ _ _ _ _)
        obtain ⟨c9, h⟩ := chk_some h
        obtain ⟨v10, m11, g12, h⟩ := cal0_some h
        refine cV1 (e_X11_versions (d + 46) g12) (cont0 (by decide) (?_ : Ex _ _ 304 _ _ _ _ _)) og_X11_versions rfl ml_RL_110 11 rfl rfl c9 im_X11_versions se_X11_versions (Nat.le_of_ble_eq_true rfl) dL_law_301
        refine x_iload dL_law_304 rfl (?_ : Ex _ _ 306 _ _ _ _ _)
        rcases ite_some h with ⟨b13, h⟩ | ⟨b13, h⟩
        · refine x_icmp_neN dL_law_306 (by decide) (fun hh => hh b13) (?_ : Ex _ _ 309 _ _ _ _ _)
          refine x_iconst dL_law_309 rfl (by decide) (?_ : Ex _ _ 310 _ _ _ _ _)
          refine x_goto (tgt := 314) dL_law_310 rfl (?_ : Ex _ _ 314 _ _ _ _ _)
          refine x_istore_n (ls2 := [(7, 0), (21, l1), (0, 1), (0, l3), (0, l4), (0, l5), (0, l6), (0, v1), (3, 0), (3, 0), (3, 0), (3, 0), (3, 0), (3, 0), (3, 0)]) dL_law_314 rfl (Nat.le_of_ble_eq_true rfl) rfl (?_ : Ex _ _ 315 _ _ _ _ _)
          obtain ⟨c15, h⟩ := chk_some h
          refine x_iinc (ls2 := [(7, 0), (21, l1), (0, 1), (0, l3), (0, l4), (0, (l5 + 1)), (0, l6), (0, v1), (3, 0), (3, 0), (3, 0), (3, 0), (3, 0), (3, 0), (3, 0)]) dL_law_315 rfl c15 rfl (?_ : Ex _ _ 318 _ _ _ _ _)
          refine x_goto (tgt := 64) dL_law_318 rfl (?_ : Ex _ _ 64 _ _ _ _ _)
          refine Ex.wk (ls2 := [(7, 0), (21, l1), (0, 1), (0, l3), (0, l4), (0, (l5 + 1)), (3, 0), (3, 0), (3, 0), (3, 0), (3, 0), (3, 0), (3, 0), (3, 0), (3, 0)]) ⟨Or.inr rfl, Or.inr rfl, Or.inr rfl, Or.inr rfl, Or.inr rfl, Or.inr rfl, Or.inl rfl, Or.inl rfl, Or.inl rfl, Or.inl rfl, Or.inl rfl, Or.inl rfl, Or.inl rfl, Or.inl rfl, Or.inl rfl, trivial⟩ ?_
          exact hk64 h
        · refine x_icmp_ne (tgt := 313) dL_law_306 rfl b13 (?_ : Ex _ _ 313 _ _ _ _ _)
          refine x_iconst dL_law_313 rfl (by decide) (?_ : Ex _ _ 314 _ _ _ _ _)
          refine x_istore_n (ls2 := [(7, 0), (21, l1), (0, 0), (0, l3), (0, l4), (0, l5), (0, l6), (0, v1), (3, 0), (3, 0), (3, 0), (3, 0), (3, 0), (3, 0), (3, 0)]) dL_law_314 rfl (Nat.le_of_ble_eq_true rfl) rfl (?_ : Ex _ _ 315 _ _ _ _ _)
          obtain ⟨c14, h⟩ := chk_some h
          refine x_iinc (ls2 := [(7, 0), (21, l1), (0, 0), (0, l3), (0, l4), (0, (l5 + 1)), (0, l6), (0, v1), (3, 0), (3, 0), (3, 0), (3, 0), (3, 0), (3, 0), (3, 0)]) dL_law_315 rfl c14 rfl (?_ : Ex _ _ 318 _ _ _ _ _)
          refine x_goto (tgt := 64) dL_law_318 rfl (?_ : Ex _ _ 64 _ _ _ _ _)
          refine Ex.wk (ls2 := [(7, 0), (21, l1), (0, 0), (0, l3), (0, l4), (0, (l5 + 1)), (3, 0), (3, 0), (3, 0), (3, 0), (3, 0), (3, 0), (3, 0), (3, 0), (3, 0)]) ⟨Or.inr rfl, Or.inr rfl, Or.inr rfl, Or.inr rfl, Or.inr rfl, Or.inr rfl, Or.inl rfl, Or.inl rfl, Or.inl rfl, Or.inl rfl, Or.inl rfl, Or.inl rfl, Or.inl rfl, Or.inl rfl, Or.inl rfl, trivial⟩ ?_
          exact hk64 h
      · refine x_icmp_ne (tgt := 313) dL_law_296 rfl b7 (?_ : Ex _ _ 313 _ _ _ _ _)
        refine x_iconst dL_law_313 rfl (by decide) (?_ : Ex _ _ 314 _ _ _ _ _)
        refine x_istore_n (ls2 := [(7, 0), (21, l1), (0, 0), (0, l3), (0, l4), (0, l5), (0, l6), (0, v1), (3, 0), (3, 0), (3, 0), (3, 0), (3, 0), (3, 0), (3, 0)]) dL_law_314 rfl (Nat.le_of_ble_eq_true rfl) rfl (?_ : Ex _ _ 315 _ _ _ _ _)
        obtain ⟨c8, h⟩ := chk_some h
        refine x_iinc (ls2 := [(7, 0), (21, l1), (0, 0), (0, l3), (0, l4), (0, (l5 + 1)), (0, l6), (0, v1), (3, 0), (3, 0), (3, 0), (3, 0), (3, 0), (3, 0), (3, 0)]) dL_law_315 rfl c8 rfl (?_ : Ex _ _ 318 _ _ _ _ _)
        refine x_goto (tgt := 64) dL_law_318 rfl (?_ : Ex _ _ 64 _ _ _ _ _)
        refine Ex.wk (ls2 := [(7, 0), (21, l1), (0, 0), (0, l3), (0, l4), (0, (l5 + 1)), (3, 0), (3, 0), (3, 0), (3, 0), (3, 0), (3, 0), (3, 0), (3, 0), (3, 0)]) ⟨Or.inr rfl, Or.inr rfl, Or.inr rfl, Or.inr rfl, Or.inr rfl, Or.inr rfl, Or.inl rfl, Or.inl rfl, Or.inl rfl, Or.inl rfl, Or.inl rfl, Or.inl rfl, Or.inl rfl, Or.inl rfl, Or.inl rfl, trivial⟩ ?_
        exact hk64 h
theorem e_L_law_164 (d : Nat) {k90 : Int → Int → Int → Int → Int → Int → Int → Mem → Option R2} (hk90 : ∀ {l1 l2 l3 l4 l5 l6 l7 : Int} {m : Mem} {v : Int} {m' : Mem}, k90 l1 l2 l3 l4 l5 l6 l7 m = some (v, m') → Ex (d + 49) fm_L_law 90 [(7, 0), (21, l1), (0, l2), (0, l3), (0, l4), (0, l5), (0, l6), (0, l7), (3, 0), (3, 0), (3, 0), (3, 0), (3, 0), (3, 0), (3, 0)] [] m (.inl (0, v)) m') {l1 l2 l3 l4 l5 l6 l7 l8 s0 : Int} {m : Mem} {v : Int} {m' : Mem} (h : L_law_164 k90 l1 l2 l3 l4 l5 l6 l7 l8 s0 m = some (v, m')) : Ex (d + 49) fm_L_law 164 [(7, 0), (21, l1), (0, l2), (0, l3), (0, l4), (0, l5), (0, l6), (0, l7), (0, l8), (3, 0), (3, 0), (3, 0), (3, 0), (3, 0), (3, 0)] [(0, s0)] m (.inl (0, v)) m' := by
  unfold L_law_164 at h
  refine x_istore (ls2 := [(7, 0), (21, l1), (0, l2), (0, l3), (0, l4), (0, l5), (0, l6), (0, l7), (0, l8), (0, s0), (3, 0), (3, 0), (3, 0), (3, 0), (3, 0)]) dL_law_164 (Nat.le_of_ble_eq_true rfl) rfl (?_ : Ex _ _ 166 _ _ _ _ _)
  refine x_iload dL_law_166 rfl (?_ : Ex _ _ 168 _ _ _ _ _)
  refine x_iload dL_law_168 rfl (?_ : Ex _ _ 170 _ _ _ _ _)
  obtain ⟨v1, m2, g3, h⟩ := cal_some h
  refine cS2 (e_L_packed (d + 48) g3) (contN (by decide) (?_ : Ex _ _ 173 _ _ _ _ _)) og_L_packed rfl ml_RL_104 sm_L_packed (Nat.le_of_ble_eq_true rfl) dL_law_170
  refine x_istore (ls2 := [(7, 0), (21, l1), (0, l2), (0, l3), (0, l4), (0, l5), (0, l6), (0, l7), (0, l8), (0, s0), (0, v1), (3, 0), (3, 0), (3, 0), (3, 0)]) dL_law_173 (Nat.le_of_ble_eq_true rfl) rfl (?_ : Ex _ _ 175 _ _ _ _ _)
  refine x_aload_n dL_law_175 rfl rfl (Or.inr (by decide)) (?_ : Ex _ _ 176 _ _ _ _ _)
  refine x_iconst dL_law_176 rfl (by decide) (?_ : Ex _ _ 177 _ _ _ _ _)
  refine x_iload_n dL_law_177 rfl rfl (?_ : Ex _ _ 178 _ _ _ _ _)
  refine x_iload dL_law_178 rfl (?_ : Ex _ _ 180 _ _ _ _ _)
  refine x_iload dL_law_180 rfl (?_ : Ex _ _ 182 _ _ _ _ _)
  refine x_bipush dL_law_182 kb_100 (by decide) (?_ : Ex _ _ 184 _ _ _ _ _)
  obtain ⟨c4, h⟩ := chk_some h
  refine x_idiv dL_law_184 c4 (by decide) (?_ : Ex _ _ 185 _ _ _ _ _)
  refine x_iload dL_law_185 rfl (?_ : Ex _ _ 187 _ _ _ _ _)
  refine x_bipush dL_law_187 kb_100 (by decide) (?_ : Ex _ _ 189 _ _ _ _ _)
  obtain ⟨c5, h⟩ := chk_some h
  refine x_irem dL_law_189 c5 (by decide) (?_ : Ex _ _ 190 _ _ _ _ _)
  obtain ⟨v6, m7, g8, h⟩ := cal_some h
  refine cW6 (e_L_on (d + 1) g8) (by decide) (?_ : Ex _ _ 193 _ _ _ _ _) og_L_on (List.cons_ne_nil _ _) ml_RL_85 sm_L_on (Nat.le_of_ble_eq_true rfl) dL_law_190
  refine x_istore (ls2 := [(7, 0), (21, l1), (0, l2), (0, l3), (0, l4), (0, l5), (0, l6), (0, l7), (0, l8), (0, s0), (0, v1), (0, v6), (3, 0), (3, 0), (3, 0)]) dL_law_193 (Nat.le_of_ble_eq_true rfl) rfl (?_ : Ex _ _ 195 _ _ _ _ _)
  refine x_iload_n dL_law_195 rfl rfl (?_ : Ex _ _ 196 _ _ _ _ _)
  rcases ite_some h with ⟨b9, h⟩ | ⟨b9, h⟩
  · refine x_if_eq (tgt := 212) dL_law_196 rfl b9 (?_ : Ex _ _ 212 _ _ _ _ _)
    refine x_iconst dL_law_212 rfl (by decide) (?_ : Ex _ _ 213 _ _ _ _ _)
    refine x_istore_n (ls2 := [(7, 0), (21, l1), (0, 0), (0, l3), (0, l4), (0, l5), (0, l6), (0, l7), (0, l8), (0, s0), (0, v1), (0, v6), (3, 0), (3, 0), (3, 0)]) dL_law_213 rfl (Nat.le_of_ble_eq_true rfl) rfl (?_ : Ex _ _ 214 _ _ _ _ _)
    obtain ⟨c10, h⟩ := chk_some h
    refine x_iinc (ls2 := [(7, 0), (21, l1), (0, 0), (0, l3), (0, l4), (0, l5), (0, l6), (0, (l7 + 1)), (0, l8), (0, s0), (0, v1), (0, v6), (3, 0), (3, 0), (3, 0)]) dL_law_214 rfl c10 rfl (?_ : Ex _ _ 217 _ _ _ _ _)
    refine x_goto (tgt := 90) dL_law_217 rfl (?_ : Ex _ _ 90 _ _ _ _ _)
    refine Ex.wk (ls2 := [(7, 0), (21, l1), (0, 0), (0, l3), (0, l4), (0, l5), (0, l6), (0, (l7 + 1)), (3, 0), (3, 0), (3, 0), (3, 0), (3, 0), (3, 0), (3, 0)]) ⟨Or.inr rfl, Or.inr rfl, Or.inr rfl, Or.inr rfl, Or.inr rfl, Or.inr rfl, Or.inr rfl, Or.inr rfl, Or.inl rfl, Or.inl rfl, Or.inl rfl, Or.inl rfl, Or.inl rfl, Or.inl rfl, Or.inl rfl, trivial⟩ ?_
    exact hk90 h
  · refine x_if_eqN dL_law_196 (by decide) b9 (?_ : Ex _ _ 199 _ _ _ _ _)
    refine x_iload dL_law_199 rfl (?_ : Ex _ _ 201 _ _ _ _ _)
    refine x_iload dL_law_201 rfl (?_ : Ex _ _ 203 _ _ _ _ _)
    refine x_iconst dL_law_203 rfl (by decide) (?_ : Ex _ _ 204 _ _ _ _ _)
    obtain ⟨c11, h⟩ := chk_some h
    refine x_iadd dL_law_204 c11 (?_ : Ex _ _ 205 _ _ _ _ _)
    rcases ite_some h with ⟨b12, h⟩ | ⟨b12, h⟩
    · refine x_icmp_neN dL_law_205 (by decide) (fun hh => hh b12) (?_ : Ex _ _ 208 _ _ _ _ _)
      refine x_iconst dL_law_208 rfl (by decide) (?_ : Ex _ _ 209 _ _ _ _ _)
      refine x_goto (tgt := 213) dL_law_209 rfl (?_ : Ex _ _ 213 _ _ _ _ _)
      refine x_istore_n (ls2 := [(7, 0), (21, l1), (0, 1), (0, l3), (0, l4), (0, l5), (0, l6), (0, l7), (0, l8), (0, s0), (0, v1), (0, v6), (3, 0), (3, 0), (3, 0)]) dL_law_213 rfl (Nat.le_of_ble_eq_true rfl) rfl (?_ : Ex _ _ 214 _ _ _ _ _)
      obtain ⟨c14, h⟩ := chk_some h
      refine x_iinc (ls2 := [(7, 0), (21, l1), (0, 1), (0, l3), (0, l4), (0, l5), (0, l6), (0, (l7 + 1)), (0, l8), (0, s0), (0, v1), (0, v6), (3, 0), (3, 0), (3, 0)]) dL_law_214 rfl c14 rfl (?_ : Ex _ _ 217 _ _ _ _ _)
      refine x_goto (tgt := 90) dL_law_217 rfl (?_ : Ex _ _ 90 _ _ _ _ _)
      refine Ex.wk (ls2 := [(7, 0), (21, l1), (0, 1), (0, l3), (0, l4), (0, l5), (0, l6), (0, (l7 + 1)), (3, 0), (3, 0), (3, 0), (3, 0), (3, 0), (3, 0), (3, 0)]) ⟨Or.inr rfl, Or.inr rfl, Or.inr rfl, Or.inr rfl, Or.inr rfl, Or.inr rfl, Or.inr rfl, Or.inr rfl, Or.inl rfl, Or.inl rfl, Or.inl rfl, Or.inl rfl, Or.inl rfl, Or.inl rfl, Or.inl rfl, trivial⟩ ?_
      exact hk90 h
    · refine x_icmp_ne (tgt := 212) dL_law_205 rfl b12 (?_ : Ex _ _ 212 _ _ _ _ _)
      refine x_iconst dL_law_212 rfl (by decide) (?_ : Ex _ _ 213 _ _ _ _ _)
      refine x_istore_n (ls2 := [(7, 0), (21, l1), (0, 0), (0, l3), (0, l4), (0, l5), (0, l6), (0, l7), (0, l8), (0, s0), (0, v1), (0, v6), (3, 0), (3, 0), (3, 0)]) dL_law_213 rfl (Nat.le_of_ble_eq_true rfl) rfl (?_ : Ex _ _ 214 _ _ _ _ _)
      obtain ⟨c13, h⟩ := chk_some h
      refine x_iinc (ls2 := [(7, 0), (21, l1), (0, 0), (0, l3), (0, l4), (0, l5), (0, l6), (0, (l7 + 1)), (0, l8), (0, s0), (0, v1), (0, v6), (3, 0), (3, 0), (3, 0)]) dL_law_214 rfl c13 rfl (?_ : Ex _ _ 217 _ _ _ _ _)
      refine x_goto (tgt := 90) dL_law_217 rfl (?_ : Ex _ _ 90 _ _ _ _ _)
      refine Ex.wk (ls2 := [(7, 0), (21, l1), (0, 0), (0, l3), (0, l4), (0, l5), (0, l6), (0, (l7 + 1)), (3, 0), (3, 0), (3, 0), (3, 0), (3, 0), (3, 0), (3, 0)]) ⟨Or.inr rfl, Or.inr rfl, Or.inr rfl, Or.inr rfl, Or.inr rfl, Or.inr rfl, Or.inr rfl, Or.inr rfl, Or.inl rfl, Or.inl rfl, Or.inl rfl, Or.inl rfl, Or.inl rfl, Or.inl rfl, Or.inl rfl, trivial⟩ ?_
      exact hk90 h
theorem e_L_law_146 (d : Nat) {k90 : Int → Int → Int → Int → Int → Int → Int → Mem → Option R2} (hk90 : ∀ {l1 l2 l3 l4 l5 l6 l7 : Int} {m : Mem} {v : Int} {m' : Mem}, k90 l1 l2 l3 l4 l5 l6 l7 m = some (v, m') → Ex (d + 49) fm_L_law 90 [(7, 0), (21, l1), (0, l2), (0, l3), (0, l4), (0, l5), (0, l6), (0, l7), (3, 0), (3, 0), (3, 0), (3, 0), (3, 0), (3, 0), (3, 0)] [] m (.inl (0, v)) m') {l1 l2 l3 l4 l5 l6 l7 l8 s0 : Int} {m : Mem} {v : Int} {m' : Mem} (h : L_law_146 k90 l1 l2 l3 l4 l5 l6 l7 l8 s0 m = some (v, m')) : Ex (d + 49) fm_L_law 146 [(7, 0), (21, l1), (0, l2), (0, l3), (0, l4), (0, l5), (0, l6), (0, l7), (0, l8), (3, 0), (3, 0), (3, 0), (3, 0), (3, 0), (3, 0)] [(0, s0)] m (.inl (0, v)) m' := by
  unfold L_law_146 at h
  refine x_istore (ls2 := [(7, 0), (21, l1), (0, l2), (0, l3), (0, l4), (0, l5), (0, l6), (0, l7), (0, l8), (0, s0), (3, 0), (3, 0), (3, 0), (3, 0), (3, 0)]) dL_law_146 (Nat.le_of_ble_eq_true rfl) rfl (?_ : Ex _ _ 148 _ _ _ _ _)
  refine x_iload dL_law_148 rfl (?_ : Ex _ _ 150 _ _ _ _ _)
  refine x_iconst dL_law_150 rfl (by decide) (?_ : Ex _ _ 151 _ _ _ _ _)
  rcases ite_some h with ⟨b1, h⟩ | ⟨b1, h⟩
  · refine x_icmp_neN dL_law_151 (by decide) (fun hh => hh b1) (?_ : Ex _ _ 154 _ _ _ _ _)
    refine x_iload_n dL_law_154 rfl rfl (?_ : Ex _ _ 155 _ _ _ _ _)
    rcases ite_some h with ⟨b2, h⟩ | ⟨b2, h⟩
    · refine x_if_le (tgt := 162) dL_law_155 rfl b2 (?_ : Ex _ _ 162 _ _ _ _ _)
      refine x_iload dL_law_162 rfl (?_ : Ex _ _ 164 _ _ _ _ _)
      refine Ex.wk (ls2 := [(7, 0), (21, l1), (0, l2), (0, l3), (0, l4), (0, l5), (0, l6), (0, l7), (0, l8), (3, 0), (3, 0), (3, 0), (3, 0), (3, 0), (3, 0)]) ⟨Or.inr rfl, Or.inr rfl, Or.inr rfl, Or.inr rfl, Or.inr rfl, Or.inr rfl, Or.inr rfl, Or.inr rfl, Or.inr rfl, Or.inl rfl, Or.inl rfl, Or.inl rfl, Or.inl rfl, Or.inl rfl, Or.inl rfl, trivial⟩ ?_
      exact e_L_law_164 d hk90 h
    · refine x_if_leN dL_law_155 (by decide) b2 (?_ : Ex _ _ 158 _ _ _ _ _)
      refine x_iconst dL_law_158 rfl (by decide) (?_ : Ex _ _ 159 _ _ _ _ _)
      refine x_goto (tgt := 164) dL_law_159 rfl (?_ : Ex _ _ 164 _ _ _ _ _)
      refine Ex.wk (ls2 := [(7, 0), (21, l1), (0, l2), (0, l3), (0, l4), (0, l5), (0, l6), (0, l7), (0, l8), (3, 0), (3, 0), (3, 0), (3, 0), (3, 0), (3, 0)]) ⟨Or.inr rfl, Or.inr rfl, Or.inr rfl, Or.inr rfl, Or.inr rfl, Or.inr rfl, Or.inr rfl, Or.inr rfl, Or.inr rfl, Or.inl rfl, Or.inl rfl, Or.inl rfl, Or.inl rfl, Or.inl rfl, Or.inl rfl, trivial⟩ ?_
      exact e_L_law_164 d hk90 h
  · refine x_icmp_ne (tgt := 162) dL_law_151 rfl b1 (?_ : Ex _ _ 162 _ _ _ _ _)
    refine x_iload dL_law_162 rfl (?_ : Ex _ _ 164 _ _ _ _ _)
    refine Ex.wk (ls2 := [(7, 0), (21, l1), (0, l2), (0, l3), (0, l4), (0, l5), (0, l6), (0, l7), (0, l8), (3, 0), (3, 0), (3, 0), (3, 0), (3, 0), (3, 0)]) ⟨Or.inr rfl, Or.inr rfl, Or.inr rfl, Or.inr rfl, Or.inr rfl, Or.inr rfl, Or.inr rfl, Or.inr rfl, Or.inr rfl, Or.inl rfl, Or.inl rfl, Or.inl rfl, Or.inl rfl, Or.inl rfl, Or.inl rfl, trivial⟩ ?_
    exact e_L_law_164 d hk90 h
theorem e_L_law_90 (d : Nat) {k220 : Int → Int → Int → Int → Int → Int → Mem → Option R2} (hk220 : ∀ {l1 l2 l3 l4 l5 l6 : Int} {m : Mem} {v : Int} {m' : Mem}, k220 l1 l2 l3 l4 l5 l6 m = some (v, m') → Ex (d + 49) fm_L_law 220 [(7, 0), (21, l1), (0, l2), (0, l3), (0, l4), (0, l5), (0, l6), (3, 0), (3, 0), (3, 0), (3, 0), (3, 0), (3, 0), (3, 0), (3, 0)] [] m (.inl (0, v)) m') : ∀ (n : Nat) {l1 l2 l3 l4 l5 l6 l7 : Int} {m : Mem} {v : Int} {m' : Mem}, L_law_90 k220 n l1 l2 l3 l4 l5 l6 l7 m = some (v, m') → Ex (d + 49) fm_L_law 90 [(7, 0), (21, l1), (0, l2), (0, l3), (0, l4), (0, l5), (0, l6), (0, l7), (3, 0), (3, 0), (3, 0), (3, 0), (3, 0), (3, 0), (3, 0)] [] m (.inl (0, v)) m' := by
  intro n
  induction n with
  | zero =>
    intro l1 l2 l3 l4 l5 l6 l7 m v m' h
    have h : (none : Option R2) = some _ := h
    cases h
  | succ n ih =>
    intro l1 l2 l3 l4 l5 l6 l7 m v m' h
    rw [L_law_90] at h
    refine x_iload dL_law_90 rfl (?_ : Ex _ _ 92 _ _ _ _ _)
    refine x_iload dL_law_92 rfl (?_ : Ex _ _ 94 _ _ _ _ _)
    rcases ite_some h with ⟨b1, h⟩ | ⟨b1, h⟩
    · refine x_icmp_ge (tgt := 220) dL_law_94 rfl b1 (?_ : Ex _ _ 220 _ _ _ _ _)
      refine Ex.wk (ls2 := [(7, 0), (21, l1), (0, l2), (0, l3), (0, l4), (0, l5), (0, l6), (3, 0), (3, 0), (3, 0), (3, 0), (3, 0), (3, 0), (3, 0), (3, 0)]) ⟨Or.inr rfl, Or.inr rfl, Or.inr rfl, Or.inr rfl, Or.inr rfl, Or.inr rfl, Or.inr rfl, Or.inl rfl, Or.inl rfl, Or.inl rfl, Or.inl rfl, Or.inl rfl, Or.inl rfl, Or.inl rfl, Or.inl rfl, trivial⟩ ?_
      exact hk220 h
    · refine x_icmp_geN dL_law_94 (by decide) b1 (?_ : Ex _ _ 97 _ _ _ _ _)
      refine x_iload dL_law_97 rfl (?_ : Ex _ _ 99 _ _ _ _ _)
      refine x_ldc (x := 1103515245) kc_RL_102 dL_law_99 (by decide +kernel) (by decide) (?_ : Ex _ _ 101 _ _ _ _ _)
      refine x_imulW dL_law_101 (?_ : Ex _ _ 102 _ _ _ _ _)
      refine x_sipush dL_law_102 ks_12345 (by decide) (?_ : Ex _ _ 105 _ _ _ _ _)
      refine x_iaddW dL_law_105 (?_ : Ex _ _ 106 _ _ _ _ _)
      refine x_istore (ls2 := [(7, 0), (21, l1), (0, l2), (0, l3), (0, (w32 ((w32 (l4 * 1103515245)) + 12345))), (0, l5), (0, l6), (0, l7), (3, 0), (3, 0), (3, 0), (3, 0), (3, 0), (3, 0), (3, 0)]) dL_law_106 (Nat.le_of_ble_eq_true rfl) rfl (?_ : Ex _ _ 108 _ _ _ _ _)
      refine x_iload dL_law_108 rfl (?_ : Ex _ _ 110 _ _ _ _ _)
      refine x_bipush dL_law_110 kb_8 (by decide) (?_ : Ex _ _ 112 _ _ _ _ _)
      refine x_ishr dL_law_112 (?_ : Ex _ _ 113 _ _ _ _ _)
      refine x_ldc (x := 16777215) kc_RL_103 dL_law_113 (by decide +kernel) (by decide) (?_ : Ex _ _ 115 _ _ _ _ _)
      refine x_iand dL_law_115 (?_ : Ex _ _ 116 _ _ _ _ _)
      refine x_istore (ls2 := [(7, 0), (21, l1), (0, l2), (0, l3), (0, (w32 ((w32 (l4 * 1103515245)) + 12345))), (0, l5), (0, l6), (0, l7), (0, (Int32.ofInt ((Int32.ofInt (w32 ((w32 (l4 * 1103515245)) + 12345)) >>> (Int32.ofInt 8 &&& 31)).toInt) &&& Int32.ofInt 16777215).toInt), (3, 0), (3, 0), (3, 0), (3, 0), (3, 0), (3, 0)]) dL_law_116 (Nat.le_of_ble_eq_true rfl) rfl (?_ : Ex _ _ 118 _ _ _ _ _)
      refine x_iload dL_law_118 rfl (?_ : Ex _ _ 120 _ _ _ _ _)
      refine x_bipush dL_law_120 kb_31 (by decide) (?_ : Ex _ _ 122 _ _ _ _ _)
      refine x_iand dL_law_122 (?_ : Ex _ _ 123 _ _ _ _ _)
      refine x_bipush dL_law_123 kb_14 (by decide) (?_ : Ex _ _ 125 _ _ _ _ _)
      rcases ite_some h with ⟨b2, h⟩ | ⟨b2, h⟩
      · refine x_icmp_ge (tgt := 138) dL_law_125 rfl b2 (?_ : Ex _ _ 138 _ _ _ _ _)
        refine x_iload dL_law_138 rfl (?_ : Ex _ _ 140 _ _ _ _ _)
        refine x_bipush dL_law_140 kb_31 (by decide) (?_ : Ex _ _ 142 _ _ _ _ _)
        refine x_iand dL_law_142 (?_ : Ex _ _ 143 _ _ _ _ _)
        refine x_bipush dL_law_143 kb_16 (by decide) (?_ : Ex _ _ 145 _ _ _ _ _)
        obtain ⟨c3, h⟩ := chk_some h
        refine x_irem dL_law_145 c3 (by decide) (?_ : Ex _ _ 146 _ _ _ _ _)
        exact e_L_law_146 d ih h
      · refine x_icmp_geN dL_law_125 (by decide) b2 (?_ : Ex _ _ 128 _ _ _ _ _)
        refine x_iload dL_law_128 rfl (?_ : Ex _ _ 130 _ _ _ _ _)
        refine x_bipush dL_law_130 kb_31 (by decide) (?_ : Ex _ _ 132 _ _ _ _ _)
        refine x_iand dL_law_132 (?_ : Ex _ _ 133 _ _ _ _ _)
        refine x_iconst dL_law_133 rfl (by decide) (?_ : Ex _ _ 134 _ _ _ _ _)
        obtain ⟨c4, h⟩ := chk_some h
        refine x_irem dL_law_134 c4 (by decide) (?_ : Ex _ _ 135 _ _ _ _ _)
        refine x_goto (tgt := 146) dL_law_135 rfl (?_ : Ex _ _ 146 _ _ _ _ _)
        exact e_L_law_146 d ih h
theorem e_L_law_64 (d : Nat) {k30 : Int → Int → Int → Mem → Option R2} (hk30 : ∀ {l1 l2 l3 : Int} {m : Mem} {v : Int} {m' : Mem}, k30 l1 l2 l3 m = some (v, m') → Ex (d + 49) fm_L_law 30 [(7, 0), (21, l1), (0, l2), (0, l3), (3, 0), (3, 0), (3, 0), (3, 0), (3, 0), (3, 0), (3, 0), (3, 0), (3, 0), (3, 0), (3, 0)] [] m (.inl (0, v)) m') : ∀ (n : Nat) {l1 l2 l3 l4 l5 : Int} {m : Mem} {v : Int} {m' : Mem}, L_law_64 k30 n l1 l2 l3 l4 l5 m = some (v, m') → Ex (d + 49) fm_L_law 64 [(7, 0), (21, l1), (0, l2), (0, l3), (0, l4), (0, l5), (3, 0), (3, 0), (3, 0), (3, 0), (3, 0), (3, 0), (3, 0), (3, 0), (3, 0)] [] m (.inl (0, v)) m' := by
  intro n
  induction n with
  | zero =>
    intro l1 l2 l3 l4 l5 m v m' h
    have h : (none : Option R2) = some _ := h
    cases h
  | succ n ih =>
    intro l1 l2 l3 l4 l5 m v m' h
    rw [L_law_64] at h
    refine x_iload dL_law_64 rfl (?_ : Ex _ _ 66 _ _ _ _ _)
    refine x_iconst dL_law_66 rfl (by decide) (?_ : Ex _ _ 67 _ _ _ _ _)
    rcases ite_some h with ⟨b1, h⟩ | ⟨b1, h⟩
    · refine x_icmp_ge (tgt := 321) dL_law_67 rfl b1 (?_ : Ex _ _ 321 _ _ _ _ _)
      obtain ⟨c2, h⟩ := chk_some h
      refine x_iinc (ls2 := [(7, 0), (21, l1), (0, l2), (0, (l3 + 1)), (0, l4), (0, l5), (3, 0), (3, 0), (3, 0), (3, 0), (3, 0), (3, 0), (3, 0), (3, 0), (3, 0)]) dL_law_321 rfl c2 rfl (?_ : Ex _ _ 324 _ _ _ _ _)
      refine x_goto (tgt := 30) dL_law_324 rfl (?_ : Ex _ _ 30 _ _ _ _ _)
      refine Ex.wk (ls2 := [(7, 0), (21, l1), (0, l2), (0, (l3 + 1)), (3, 0), (3, 0), (3, 0), (3, 0), (3, 0), (3, 0), (3, 0), (3, 0), (3, 0), (3, 0), (3, 0)]) ⟨Or.inr rfl, Or.inr rfl, Or.inr rfl, Or.inr rfl, Or.inl rfl, Or.inl rfl, Or.inl rfl, Or.inl rfl, Or.inl rfl, Or.inl rfl, Or.inl rfl, Or.inl rfl, Or.inl rfl, Or.inl rfl, Or.inl rfl, trivial⟩ ?_
      exact hk30 h
    · refine x_icmp_geN dL_law_67 (by decide) b1 (?_ : Ex _ _ 70 _ _ _ _ _)
      refine x_iload_n dL_law_70 rfl rfl (?_ : Ex _ _ 71 _ _ _ _ _)
      rcases ite_some h with ⟨b3, h⟩ | ⟨b3, h⟩
      · refine x_if_eq (tgt := 321) dL_law_71 rfl b3 (?_ : Ex _ _ 321 _ _ _ _ _)
        obtain ⟨c4, h⟩ := chk_some h
        refine x_iinc (ls2 := [(7, 0), (21, l1), (0, l2), (0, (l3 + 1)), (0, l4), (0, l5), (3, 0), (3, 0), (3, 0), (3, 0), (3, 0), (3, 0), (3, 0), (3, 0), (3, 0)]) dL_law_321 rfl c4 rfl (?_ : Ex _ _ 324 _ _ _ _ _)
        refine x_goto (tgt := 30) dL_law_324 rfl (?_ : Ex _ _ 30 _ _ _ _ _)
        refine Ex.wk (ls2 := [(7, 0), (21, l1), (0, l2), (0, (l3 + 1)), (3, 0), (3, 0), (3, 0), (3, 0), (3, 0), (3, 0), (3, 0), (3, 0), (3, 0), (3, 0), (3, 0)]) ⟨Or.inr rfl, Or.inr rfl, Or.inr rfl, Or.inr rfl, Or.inl rfl, Or.inl rfl, Or.inl rfl, Or.inl rfl, Or.inl rfl, Or.inl rfl, Or.inl rfl, Or.inl rfl, Or.inl rfl, Or.inl rfl, Or.inl rfl, trivial⟩ ?_
        exact hk30 h
      · refine x_if_eqN dL_law_71 (by decide) b3 (?_ : Ex _ _ 74 _ _ _ _ _)
        refine x_iconst dL_law_74 rfl (by decide) (?_ : Ex _ _ 75 _ _ _ _ _)
        refine x_iload dL_law_75 rfl (?_ : Ex _ _ 77 _ _ _ _ _)
        refine x_iconst dL_law_77 rfl (by decide) (?_ : Ex _ _ 78 _ _ _ _ _)
        refine x_ishr dL_law_78 (?_ : Ex _ _ 79 _ _ _ _ _)
        refine x_bipush dL_law_79 kb_7 (by decide) (?_ : Ex _ _ 81 _ _ _ _ _)
        refine x_iand dL_law_81 (?_ : Ex _ _ 82 _ _ _ _ _)
        refine x_iconst dL_law_82 rfl (by decide) (?_ : Ex _ _ 83 _ _ _ _ _)
        obtain ⟨c5, h⟩ := chk_some h
        refine x_irem dL_law_83 c5 (by decide) (?_ : Ex _ _ 84 _ _ _ _ _)
        obtain ⟨c6, h⟩ := chk_some h
        refine x_iadd dL_law_84 c6 (?_ : Ex _ _ 85 _ _ _ _ _)
        refine x_istore (ls2 := [(7, 0), (21, l1), (0, l2), (0, l3), (0, l4), (0, l5), (0, (3 + ((Int32.ofInt ((Int32.ofInt l4 >>> (Int32.ofInt 3 &&& 31)).toInt) &&& Int32.ofInt 7).toInt % 5))), (3, 0), (3, 0), (3, 0), (3, 0), (3, 0), (3, 0), (3, 0), (3, 0)]) dL_law_85 (Nat.le_of_ble_eq_true rfl) rfl (?_ : Ex _ _ 87 _ _ _ _ _)
        refine x_iconst dL_law_87 rfl (by decide) (?_ : Ex _ _ 88 _ _ _ _ _)
        refine x_istore (ls2 := [(7, 0), (21, l1), (0, l2), (0, l3), (0, l4), (0, l5), (0, (3 + ((Int32.ofInt ((Int32.ofInt l4 >>> (Int32.ofInt 3 &&& 31)).toInt) &&& Int32.ofInt 7).toInt % 5))), (0, 0), (3, 0), (3, 0), (3, 0), (3, 0), (3, 0), (3, 0), (3, 0)]) dL_law_88 (Nat.le_of_ble_eq_true rfl) rfl (?_ : Ex _ _ 90 _ _ _ _ _)
        exact e_L_law_90 d (fun h => e_L_law_220 d ih h) fuel9 h
theorem e_L_law_30 (d : Nat) {k327 : Int → Int → Mem → Option R2} (hk327 : ∀ {l1 l2 : Int} {m : Mem} {v : Int} {m' : Mem}, k327 l1 l2 m = some (v, m') → Ex (d + 49) fm_L_law 327 [(7, 0), (21, l1), (0, l2), (3, 0), (3, 0), (3, 0), (3, 0), (3, 0), (3, 0), (3, 0), (3, 0), (3, 0), (3, 0), (3, 0), (3, 0)] [] m (.inl (0, v)) m') : ∀ (n : Nat) {l1 l2 l3 : Int} {m : Mem} {v : Int} {m' : Mem}, L_law_30 k327 n l1 l2 l3 m = some (v, m') → Ex (d + 49) fm_L_law 30 [(7, 0), (21, l1), (0, l2), (0, l3), (3, 0), (3, 0), (3, 0), (3, 0), (3, 0), (3, 0), (3, 0), (3, 0), (3, 0), (3, 0), (3, 0)] [] m (.inl (0, v)) m' := by
  intro n
  induction n with
  | zero =>
    intro l1 l2 l3 m v m' h
    have h : (none : Option R2) = some _ := h
    cases h
  | succ n ih =>
    intro l1 l2 l3 m v m' h
    rw [L_law_30] at h
    refine x_iload_n dL_law_30 rfl rfl (?_ : Ex _ _ 31 _ _ _ _ _)
    refine x_iconst dL_law_31 rfl (by decide) (?_ : Ex _ _ 32 _ _ _ _ _)
    rcases ite_some h with ⟨b1, h⟩ | ⟨b1, h⟩
    · refine x_icmp_ge (tgt := 327) dL_law_32 rfl b1 (?_ : Ex _ _ 327 _ _ _ _ _)
      refine Ex.wk (ls2 := [(7, 0), (21, l1), (0, l2), (3, 0), (3, 0), (3, 0), (3, 0), (3, 0), (3, 0), (3, 0), (3, 0), (3, 0), (3, 0), (3, 0), (3, 0)]) ⟨Or.inr rfl, Or.inr rfl, Or.inr rfl, Or.inl rfl, Or.inl rfl, Or.inl rfl, Or.inl rfl, Or.inl rfl, Or.inl rfl, Or.inl rfl, Or.inl rfl, Or.inl rfl, Or.inl rfl, Or.inl rfl, Or.inl rfl, trivial⟩ ?_
      exact hk327 h
    · refine x_icmp_geN dL_law_32 (by decide) b1 (?_ : Ex _ _ 35 _ _ _ _ _)
      refine x_iload_n dL_law_35 rfl rfl (?_ : Ex _ _ 36 _ _ _ _ _)
      rcases ite_some h with ⟨b2, h⟩ | ⟨b2, h⟩
      · refine x_if_eq (tgt := 327) dL_law_36 rfl b2 (?_ : Ex _ _ 327 _ _ _ _ _)
        refine Ex.wk (ls2 := [(7, 0), (21, l1), (0, l2), (3, 0), (3, 0), (3, 0), (3, 0), (3, 0), (3, 0), (3, 0), (3, 0), (3, 0), (3, 0), (3, 0), (3, 0)]) ⟨Or.inr rfl, Or.inr rfl, Or.inr rfl, Or.inl rfl, Or.inl rfl, Or.inl rfl, Or.inl rfl, Or.inl rfl, Or.inl rfl, Or.inl rfl, Or.inl rfl, Or.inl rfl, Or.inl rfl, Or.inl rfl, Or.inl rfl, trivial⟩ ?_
        exact hk327 h
      · refine x_if_eqN dL_law_36 (by decide) b2 (?_ : Ex _ _ 39 _ _ _ _ _)
        refine x_aload_n dL_law_39 rfl rfl (Or.inl rfl) (?_ : Ex _ _ 40 _ _ _ _ _)
        obtain ⟨c3, h⟩ := chk_some h
        refine x_slen c3 dL_law_40 (?_ : Ex _ _ 41 _ _ _ _ _)
        refine x_iload_n dL_law_41 rfl rfl (?_ : Ex _ _ 42 _ _ _ _ _)
        rcases ite_some h with ⟨b4, h⟩ | ⟨b4, h⟩
        · refine x_icmp_le (tgt := 51) dL_law_42 rfl b4 (?_ : Ex _ _ 51 _ _ _ _ _)
          refine x_sipush dL_law_51 ks_919 (by decide) (?_ : Ex _ _ 54 _ _ _ _ _)
          refine x_iload_n dL_law_54 rfl rfl (?_ : Ex _ _ 55 _ _ _ _ _)
          obtain ⟨c5, h⟩ := chk_some h
          refine x_imul dL_law_55 c5 (?_ : Ex _ _ 56 _ _ _ _ _)
          refine x_bipush dL_law_56 kb_37 (by decide) (?_ : Ex _ _ 58 _ _ _ _ _)
          obtain ⟨c6, h⟩ := chk_some h
          refine x_iadd dL_law_58 c6 (?_ : Ex _ _ 59 _ _ _ _ _)
          refine x_istore (ls2 := [(7, 0), (21, l1), (0, l2), (0, l3), (0, ((919 * l3) + 37)), (3, 0), (3, 0), (3, 0), (3, 0), (3, 0), (3, 0), (3, 0), (3, 0), (3, 0), (3, 0)]) dL_law_59 (Nat.le_of_ble_eq_true rfl) rfl (?_ : Ex _ _ 61 _ _ _ _ _)
          refine x_iconst dL_law_61 rfl (by decide) (?_ : Ex _ _ 62 _ _ _ _ _)
          refine x_istore (ls2 := [(7, 0), (21, l1), (0, l2), (0, l3), (0, ((919 * l3) + 37)), (0, 1), (3, 0), (3, 0), (3, 0), (3, 0), (3, 0), (3, 0), (3, 0), (3, 0), (3, 0)]) dL_law_62 (Nat.le_of_ble_eq_true rfl) rfl (?_ : Ex _ _ 64 _ _ _ _ _)
          exact e_L_law_64 d ih fuel9 h
        · refine x_icmp_leN dL_law_42 (by decide) b4 (?_ : Ex _ _ 45 _ _ _ _ _)
          refine x_aload_n dL_law_45 rfl rfl (Or.inl rfl) (?_ : Ex _ _ 46 _ _ _ _ _)
          refine x_iload_n dL_law_46 rfl rfl (?_ : Ex _ _ 47 _ _ _ _ _)
          obtain ⟨⟨c7, c8, c9⟩, h⟩ := chk_some h
          refine x_sld c7 c8 c9 dL_law_47 (?_ : Ex _ _ 48 _ _ _ _ _)
          refine x_goto (tgt := 59) dL_law_48 rfl (?_ : Ex _ _ 59 _ _ _ _ _)
          refine x_istore (ls2 := [(7, 0), (21, l1), (0, l2), (0, l3), (0, m (-3) l3), (3, 0), (3, 0), (3, 0), (3, 0), (3, 0), (3, 0), (3, 0), (3, 0), (3, 0), (3, 0)]) dL_law_59 (Nat.le_of_ble_eq_true rfl) rfl (?_ : Ex _ _ 61 _ _ _ _ _)
          refine x_iconst dL_law_61 rfl (by decide) (?_ : Ex _ _ 62 _ _ _ _ _)
          refine x_istore (ls2 := [(7, 0), (21, l1), (0, l2), (0, l3), (0, m (-3) l3), (0, 1), (3, 0), (3, 0), (3, 0), (3, 0), (3, 0), (3, 0), (3, 0), (3, 0), (3, 0)]) dL_law_62 (Nat.le_of_ble_eq_true rfl) rfl (?_ : Ex _ _ 64 _ _ _ _ _)
          exact e_L_law_64 d ih fuel9 h
theorem e_L_law_0 (d : Nat) {m : Mem} {v : Int} {m' : Mem} (h : L_law_0 m = some (v, m')) : Ex (d + 49) fm_L_law 0 [(7, 0), (3, 0), (3, 0), (3, 0), (3, 0), (3, 0), (3, 0), (3, 0), (3, 0), (3, 0), (3, 0), (3, 0), (3, 0), (3, 0), (3, 0)] [] m (.inl (0, v)) m' := by
  unfold L_law_0 at h
  obtain ⟨c1, h⟩ := chk_some h
  obtain ⟨m2, hm2, h⟩ := st_some h
  refine nw_11 (by decide) c1 cl_RL_8 dL_law_0 (?_ : Ex _ _ 3 _ _ _ _ _)
  rw [← hm2]
  refine x_dup (by decide : (21 : Int) ≠ 2) dL_law_3 (?_ : Ex _ _ 4 _ _ _ _ _)
  obtain ⟨v3, m4, g5, h⟩ := cal_some h
  refine cI0 (e_X11_init (d + 45) g5) (contV (?_ : Ex _ _ 7 _ _ _ _ _)) og_X11_init rfl ml_RL_98 rfl rfl (by decide) (by decide) im_X11_init (Nat.le_of_ble_eq_true rfl) dL_law_4
  refine x_astore_n (ls2 := [(7, 0), (21, 1), (3, 0), (3, 0), (3, 0), (3, 0), (3, 0), (3, 0), (3, 0), (3, 0), (3, 0), (3, 0), (3, 0), (3, 0), (3, 0)]) dL_law_7 rfl (Nat.le_of_ble_eq_true rfl) (Or.inr (by decide)) rfl (?_ : Ex _ _ 8 _ _ _ _ _)
  refine x_aload_n dL_law_8 rfl rfl (Or.inr (by decide)) (?_ : Ex _ _ 9 _ _ _ _ _)
  obtain ⟨v6, m7, g8, h⟩ := cal_some h
  refine cV0 (e_X11_clock (d + 48) g8) (contN (by decide) (?_ : Ex _ _ 12 _ _ _ _ _)) og_X11_clock rfl ml_RL_99 11 rfl rfl (by decide) im_X11_clock se_X11_clock (Nat.le_of_ble_eq_true rfl) dL_law_9
  rcases ite_some h with ⟨b9, h⟩ | ⟨b9, h⟩
  · refine x_if_neN dL_law_12 (by decide) (fun hh => hh b9) (?_ : Ex _ _ 15 _ _ _ _ _)
    refine x_aload_n dL_law_15 rfl rfl (Or.inr (by decide)) (?_ : Ex _ _ 16 _ _ _ _ _)
    obtain ⟨v10, m11, g12, h⟩ := cal_some h
    refine cV0 (e_X11_workflows (d + 48) g12) (contN (by decide) (?_ : Ex _ _ 19 _ _ _ _ _)) og_X11_workflows rfl ml_RL_91 11 rfl rfl (by decide) im_X11_workflows se_X11_workflows (Nat.le_of_ble_eq_true rfl) dL_law_16
    rcases ite_some h with ⟨b13, h⟩ | ⟨b13, h⟩
    · refine x_if_neN dL_law_19 (by decide) (fun hh => hh b13) (?_ : Ex _ _ 22 _ _ _ _ _)
      refine x_iconst dL_law_22 rfl (by decide) (?_ : Ex _ _ 23 _ _ _ _ _)
      refine x_goto (tgt := 27) dL_law_23 rfl (?_ : Ex _ _ 27 _ _ _ _ _)
      refine x_istore_n (ls2 := [(7, 0), (21, 1), (0, 1), (3, 0), (3, 0), (3, 0), (3, 0), (3, 0), (3, 0), (3, 0), (3, 0), (3, 0), (3, 0), (3, 0), (3, 0)]) dL_law_27 rfl (Nat.le_of_ble_eq_true rfl) rfl (?_ : Ex _ _ 28 _ _ _ _ _)
      refine x_iconst dL_law_28 rfl (by decide) (?_ : Ex _ _ 29 _ _ _ _ _)
      refine x_istore_n (ls2 := [(7, 0), (21, 1), (0, 1), (0, 0), (3, 0), (3, 0), (3, 0), (3, 0), (3, 0), (3, 0), (3, 0), (3, 0), (3, 0), (3, 0), (3, 0)]) dL_law_29 rfl (Nat.le_of_ble_eq_true rfl) rfl (?_ : Ex _ _ 30 _ _ _ _ _)
      exact e_L_law_30 d (fun h => e_L_law_327 d h) fuel9 h
    · refine x_if_ne (tgt := 26) dL_law_19 rfl b13 (?_ : Ex _ _ 26 _ _ _ _ _)
      refine x_iconst dL_law_26 rfl (by decide) (?_ : Ex _ _ 27 _ _ _ _ _)
      refine x_istore_n (ls2 := [(7, 0), (21, 1), (0, 0), (3, 0), (3, 0), (3, 0), (3, 0), (3, 0), (3, 0), (3, 0), (3, 0), (3, 0), (3, 0), (3, 0), (3, 0)]) dL_law_27 rfl (Nat.le_of_ble_eq_true rfl) rfl (?_ : Ex _ _ 28 _ _ _ _ _)
      refine x_iconst dL_law_28 rfl (by decide) (?_ : Ex _ _ 29 _ _ _ _ _)
      refine x_istore_n (ls2 := [(7, 0), (21, 1), (0, 0), (0, 0), (3, 0), (3, 0), (3, 0), (3, 0), (3, 0), (3, 0), (3, 0), (3, 0), (3, 0), (3, 0), (3, 0)]) dL_law_29 rfl (Nat.le_of_ble_eq_true rfl) rfl (?_ : Ex _ _ 30 _ _ _ _ _)
      exact e_L_law_30 d (fun h => e_L_law_327 d h) fuel9 h
  · refine x_if_ne (tgt := 26) dL_law_12 rfl b9 (?_ : Ex _ _ 26 _ _ _ _ _)
    refine x_iconst dL_law_26 rfl (by decide) (?_ : Ex _ _ 27 _ _ _ _ _)
    refine x_istore_n (ls2 := [(7, 0), (21, 1), (0, 0), (3, 0), (3, 0), (3, 0), (3, 0), (3, 0), (3, 0), (3, 0), (3, 0), (3, 0), (3, 0), (3, 0), (3, 0)]) dL_law_27 rfl (Nat.le_of_ble_eq_true rfl) rfl (?_ : Ex _ _ 28 _ _ _ _ _)
    refine x_iconst dL_law_28 rfl (by decide) (?_ : Ex _ _ 29 _ _ _ _ _)
    refine x_istore_n (ls2 := [(7, 0), (21, 1), (0, 0), (0, 0), (3, 0), (3, 0), (3, 0), (3, 0), (3, 0), (3, 0), (3, 0), (3, 0), (3, 0), (3, 0), (3, 0)]) dL_law_29 rfl (Nat.le_of_ble_eq_true rfl) rfl (?_ : Ex _ _ 30 _ _ _ _ _)
    exact e_L_law_30 d (fun h => e_L_law_327 d h) fuel9 h
theorem e_L_law (d : Nat) {m : Mem} {v : Int} {m' : Mem} (h : L_law m = some (v, m')) : ExM (d + 49) fm_L_law [(7, 0)] m (.inl (0, v)) m' := by
  obtain ⟨hb, h⟩ := boolR_some h
  exact ExM.of (by decide +kernel) (Nat.le_of_ble_eq_true rfl) (cat9 rfl) (retZ hb) (e_L_law_0 d h)
