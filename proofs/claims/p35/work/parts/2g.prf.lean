/-! the machine does what the functions say, printed -/
theorem dL_decides_0 : decode cL_decides 0 = .ok (.aload_n 0, 1) := by decide +kernel
theorem dL_decides_1 : decode cL_decides 1 = .ok (.iload_n 1, 1) := by decide +kernel
theorem dL_decides_2 : decode cL_decides 2 = .ok (.invokevirtual 69, 3) := by decide +kernel
theorem dL_decides_5 : decode cL_decides 5 = .ok (.istore_n 3, 1) := by decide +kernel
theorem dL_decides_6 : decode cL_decides 6 = .ok (.aload_n 0, 1) := by decide +kernel
theorem dL_decides_7 : decode cL_decides 7 = .ok (.iload_n 1, 1) := by decide +kernel
theorem dL_decides_8 : decode cL_decides 8 = .ok (.iload_n 3, 1) := by decide +kernel
theorem dL_decides_9 : decode cL_decides 9 = .ok (.invokevirtual 56, 3) := by decide +kernel
theorem dL_decides_12 : decode cL_decides 12 = .ok (.istore 4, 2) := by decide +kernel
theorem dL_decides_14 : decode cL_decides 14 = .ok (.aload_n 0, 1) := by decide +kernel
theorem dL_decides_15 : decode cL_decides 15 = .ok (.iload_n 1, 1) := by decide +kernel
theorem dL_decides_16 : decode cL_decides 16 = .ok (.invokevirtual 81, 3) := by decide +kernel
theorem dL_decides_19 : decode cL_decides 19 = .ok (.istore 5, 2) := by decide +kernel
theorem dL_decides_21 : decode cL_decides 21 = .ok (.aload_n 0, 1) := by decide +kernel
theorem dL_decides_22 : decode cL_decides 22 = .ok (.iload_n 1, 1) := by decide +kernel
theorem dL_decides_23 : decode cL_decides 23 = .ok (.iload_n 3, 1) := by decide +kernel
theorem dL_decides_24 : decode cL_decides 24 = .ok (.invokevirtual 59, 3) := by decide +kernel
theorem dL_decides_27 : decode cL_decides 27 = .ok (.istore 6, 2) := by decide +kernel
theorem dL_decides_29 : decode cL_decides 29 = .ok (.aload_n 0, 1) := by decide +kernel
theorem dL_decides_30 : decode cL_decides 30 = .ok (.iconst 3, 1) := by decide +kernel
theorem dL_decides_31 : decode cL_decides 31 = .ok (.iload_n 1, 1) := by decide +kernel
theorem dL_decides_32 : decode cL_decides 32 = .ok (.iload_n 2, 1) := by decide +kernel
theorem dL_decides_33 : decode cL_decides 33 = .ok (.iconst 0, 1) := by decide +kernel
theorem dL_decides_34 : decode cL_decides 34 = .ok (.iconst 0, 1) := by decide +kernel
theorem dL_decides_35 : decode cL_decides 35 = .ok (.invokestatic 85, 3) := by decide +kernel
theorem dL_decides_38 : decode cL_decides 38 = .ok (.istore 7, 2) := by decide +kernel
theorem dL_decides_40 : decode cL_decides 40 = .ok (.aload_n 0, 1) := by decide +kernel
theorem dL_decides_41 : decode cL_decides 41 = .ok (.iload_n 1, 1) := by decide +kernel
theorem dL_decides_42 : decode cL_decides 42 = .ok (.iload_n 3, 1) := by decide +kernel
theorem dL_decides_43 : decode cL_decides 43 = .ok (.invokevirtual 56, 3) := by decide +kernel
theorem dL_decides_46 : decode cL_decides 46 = .ok (.istore 8, 2) := by decide +kernel
theorem dL_decides_48 : decode cL_decides 48 = .ok (.iload 7, 2) := by decide +kernel
theorem dL_decides_50 : decode cL_decides 50 = .ok (.ldc 49, 2) := by decide +kernel
theorem dL_decides_52 : decode cL_decides 52 = .ok (.if_icmp .ne 16, 3) := by decide +kernel
theorem dL_decides_55 : decode cL_decides 55 = .ok (.iload 8, 2) := by decide +kernel
theorem dL_decides_57 : decode cL_decides 57 = .ok (.iload 4, 2) := by decide +kernel
theorem dL_decides_59 : decode cL_decides 59 = .ok (.if_icmp .ne 7, 3) := by decide +kernel
theorem dL_decides_62 : decode cL_decides 62 = .ok (.iconst 1, 1) := by decide +kernel
theorem dL_decides_63 : decode cL_decides 63 = .ok (.goto 4, 3) := by decide +kernel
theorem dL_decides_66 : decode cL_decides 66 = .ok (.iconst 0, 1) := by decide +kernel
theorem dL_decides_67 : decode cL_decides 67 = .ok (.ireturn, 1) := by decide +kernel
theorem dL_decides_68 : decode cL_decides 68 = .ok (.iload 7, 2) := by decide +kernel
theorem dL_decides_70 : decode cL_decides 70 = .ok (.ldc 55, 2) := by decide +kernel
theorem dL_decides_72 : decode cL_decides 72 = .ok (.if_icmp .eq 16, 3) := by decide +kernel
theorem dL_decides_75 : decode cL_decides 75 = .ok (.iload 7, 2) := by decide +kernel
theorem dL_decides_77 : decode cL_decides 77 = .ok (.iconst (-1), 1) := by decide +kernel
theorem dL_decides_78 : decode cL_decides 78 = .ok (.if_icmp .eq 10, 3) := by decide +kernel
theorem dL_decides_81 : decode cL_decides 81 = .ok (.iload 7, 2) := by decide +kernel
theorem dL_decides_83 : decode cL_decides 83 = .ok (.bipush (-2), 2) := by decide +kernel
theorem dL_decides_85 : decode cL_decides 85 = .ok (.if_icmp .ne 75, 3) := by decide +kernel
theorem dL_decides_88 : decode cL_decides 88 = .ok (.iload 8, 2) := by decide +kernel
theorem dL_decides_90 : decode cL_decides 90 = .ok (.iload 4, 2) := by decide +kernel
theorem dL_decides_92 : decode cL_decides 92 = .ok (.if_icmp .ne 66, 3) := by decide +kernel
theorem dL_decides_95 : decode cL_decides 95 = .ok (.aload_n 0, 1) := by decide +kernel
theorem dL_decides_96 : decode cL_decides 96 = .ok (.iload_n 1, 1) := by decide +kernel
theorem dL_decides_97 : decode cL_decides 97 = .ok (.invokevirtual 69, 3) := by decide +kernel
theorem dL_decides_100 : decode cL_decides 100 = .ok (.iload_n 3, 1) := by decide +kernel
theorem dL_decides_101 : decode cL_decides 101 = .ok (.if_icmp .ne 57, 3) := by decide +kernel
theorem dL_decides_104 : decode cL_decides 104 = .ok (.iload 7, 2) := by decide +kernel
theorem dL_decides_106 : decode cL_decides 106 = .ok (.ldc 55, 2) := by decide +kernel
theorem dL_decides_108 : decode cL_decides 108 = .ok (.if_icmp .ne 7, 3) := by decide +kernel
theorem dL_decides_111 : decode cL_decides 111 = .ok (.iconst 1, 1) := by decide +kernel
theorem dL_decides_112 : decode cL_decides 112 = .ok (.goto 4, 3) := by decide +kernel
theorem dL_decides_115 : decode cL_decides 115 = .ok (.iconst 0, 1) := by decide +kernel
theorem dL_decides_116 : decode cL_decides 116 = .ok (.iload 6, 2) := by decide +kernel
theorem dL_decides_118 : decode cL_decides 118 = .ok (.bipush 20, 2) := by decide +kernel
theorem dL_decides_120 : decode cL_decides 120 = .ok (.if_icmp .eq 7, 3) := by decide +kernel
theorem dL_decides_123 : decode cL_decides 123 = .ok (.iconst 1, 1) := by decide +kernel
theorem dL_decides_124 : decode cL_decides 124 = .ok (.goto 4, 3) := by decide +kernel
theorem dL_decides_127 : decode cL_decides 127 = .ok (.iconst 0, 1) := by decide +kernel
theorem dL_decides_128 : decode cL_decides 128 = .ok (.if_icmp .ne 30, 3) := by decide +kernel
theorem dL_decides_131 : decode cL_decides 131 = .ok (.iload 7, 2) := by decide +kernel
theorem dL_decides_133 : decode cL_decides 133 = .ok (.iconst (-1), 1) := by decide +kernel
theorem dL_decides_134 : decode cL_decides 134 = .ok (.if_icmp .ne 8, 3) := by decide +kernel
theorem dL_decides_137 : decode cL_decides 137 = .ok (.iload 5, 2) := by decide +kernel
theorem dL_decides_139 : decode cL_decides 139 = .ok (.ifCond .ne 19, 3) := by decide +kernel
theorem dL_decides_142 : decode cL_decides 142 = .ok (.iload 7, 2) := by decide +kernel
theorem dL_decides_144 : decode cL_decides 144 = .ok (.bipush (-2), 2) := by decide +kernel
theorem dL_decides_146 : decode cL_decides 146 = .ok (.if_icmp .ne 8, 3) := by decide +kernel
theorem dL_decides_149 : decode cL_decides 149 = .ok (.iload 5, 2) := by decide +kernel
theorem dL_decides_151 : decode cL_decides 151 = .ok (.ifCond .eq 7, 3) := by decide +kernel
theorem dL_decides_154 : decode cL_decides 154 = .ok (.iconst 1, 1) := by decide +kernel
theorem dL_decides_155 : decode cL_decides 155 = .ok (.goto 4, 3) := by decide +kernel
theorem dL_decides_158 : decode cL_decides 158 = .ok (.iconst 0, 1) := by decide +kernel
theorem dL_decides_159 : decode cL_decides 159 = .ok (.ireturn, 1) := by decide +kernel
theorem dL_decides_160 : decode cL_decides 160 = .ok (.iload 7, 2) := by decide +kernel
theorem dL_decides_162 : decode cL_decides 162 = .ok (.ifCond .lt 57, 3) := by decide +kernel
theorem dL_decides_165 : decode cL_decides 165 = .ok (.iload 5, 2) := by decide +kernel
theorem dL_decides_167 : decode cL_decides 167 = .ok (.ifCond .eq 52, 3) := by decide +kernel
theorem dL_decides_170 : decode cL_decides 170 = .ok (.iload 8, 2) := by decide +kernel
theorem dL_decides_172 : decode cL_decides 172 = .ok (.iload 4, 2) := by decide +kernel
theorem dL_decides_174 : decode cL_decides 174 = .ok (.iconst 1, 1) := by decide +kernel
theorem dL_decides_175 : decode cL_decides 175 = .ok (.iadd, 1) := by decide +kernel
theorem dL_decides_176 : decode cL_decides 176 = .ok (.iload 7, 2) := by decide +kernel
theorem dL_decides_178 : decode cL_decides 178 = .ok (.iadd, 1) := by decide +kernel
theorem dL_decides_179 : decode cL_decides 179 = .ok (.if_icmp .lt 40, 3) := by decide +kernel
theorem dL_decides_182 : decode cL_decides 182 = .ok (.iload 8, 2) := by decide +kernel
theorem dL_decides_184 : decode cL_decides 184 = .ok (.bipush 80, 2) := by decide +kernel
theorem dL_decides_186 : decode cL_decides 186 = .ok (.if_icmp .gt 33, 3) := by decide +kernel
theorem dL_decides_189 : decode cL_decides 189 = .ok (.aload_n 0, 1) := by decide +kernel
theorem dL_decides_190 : decode cL_decides 190 = .ok (.iload_n 1, 1) := by decide +kernel
theorem dL_decides_191 : decode cL_decides 191 = .ok (.iload_n 3, 1) := by decide +kernel
theorem dL_decides_192 : decode cL_decides 192 = .ok (.iload 4, 2) := by decide +kernel
theorem dL_decides_194 : decode cL_decides 194 = .ok (.invokevirtual 62, 3) := by decide +kernel
theorem dL_decides_197 : decode cL_decides 197 = .ok (.bipush 7, 2) := by decide +kernel
theorem dL_decides_199 : decode cL_decides 199 = .ok (.if_icmp .ne 20, 3) := by decide +kernel
theorem dL_decides_202 : decode cL_decides 202 = .ok (.aload_n 0, 1) := by decide +kernel
theorem dL_decides_203 : decode cL_decides 203 = .ok (.iload_n 1, 1) := by decide +kernel
theorem dL_decides_204 : decode cL_decides 204 = .ok (.iload_n 3, 1) := by decide +kernel
theorem dL_decides_205 : decode cL_decides 205 = .ok (.iload 4, 2) := by decide +kernel
theorem dL_decides_207 : decode cL_decides 207 = .ok (.iconst 1, 1) := by decide +kernel
theorem dL_decides_208 : decode cL_decides 208 = .ok (.invokevirtual 65, 3) := by decide +kernel
theorem dL_decides_211 : decode cL_decides 211 = .ok (.iload_n 2, 1) := by decide +kernel
theorem dL_decides_212 : decode cL_decides 212 = .ok (.if_icmp .ne 7, 3) := by decide +kernel
theorem dL_decides_215 : decode cL_decides 215 = .ok (.iconst 1, 1) := by decide +kernel
theorem dL_decides_216 : decode cL_decides 216 = .ok (.goto 4, 3) := by decide +kernel
theorem dL_decides_219 : decode cL_decides 219 = .ok (.iconst 0, 1) := by decide +kernel
theorem dL_decides_220 : decode cL_decides 220 = .ok (.istore 9, 2) := by decide +kernel
theorem dL_decides_222 : decode cL_decides 222 = .ok (.iload 7, 2) := by decide +kernel
theorem dL_decides_224 : decode cL_decides 224 = .ok (.ifCond .le 23, 3) := by decide +kernel
theorem dL_decides_227 : decode cL_decides 227 = .ok (.aload_n 0, 1) := by decide +kernel
theorem dL_decides_228 : decode cL_decides 228 = .ok (.iload_n 1, 1) := by decide +kernel
theorem dL_decides_229 : decode cL_decides 229 = .ok (.iload_n 3, 1) := by decide +kernel
theorem dL_decides_230 : decode cL_decides 230 = .ok (.iload 4, 2) := by decide +kernel
theorem dL_decides_232 : decode cL_decides 232 = .ok (.iload 7, 2) := by decide +kernel
theorem dL_decides_234 : decode cL_decides 234 = .ok (.iadd, 1) := by decide +kernel
theorem dL_decides_235 : decode cL_decides 235 = .ok (.invokevirtual 62, 3) := by decide +kernel
theorem dL_decides_238 : decode cL_decides 238 = .ok (.bipush 16, 2) := by decide +kernel
theorem dL_decides_240 : decode cL_decides 240 = .ok (.if_icmp .ne 7, 3) := by decide +kernel
theorem dL_decides_243 : decode cL_decides 243 = .ok (.iconst 1, 1) := by decide +kernel
theorem dL_decides_244 : decode cL_decides 244 = .ok (.goto 4, 3) := by decide +kernel
theorem dL_decides_247 : decode cL_decides 247 = .ok (.iconst 0, 1) := by decide +kernel
theorem dL_decides_248 : decode cL_decides 248 = .ok (.istore 10, 2) := by decide +kernel
theorem dL_decides_250 : decode cL_decides 250 = .ok (.iload 9, 2) := by decide +kernel
theorem dL_decides_252 : decode cL_decides 252 = .ok (.ifCond .eq 91, 3) := by decide +kernel
theorem dL_decides_255 : decode cL_decides 255 = .ok (.iload 10, 2) := by decide +kernel
theorem dL_decides_257 : decode cL_decides 257 = .ok (.aload_n 0, 1) := by decide +kernel
theorem dL_decides_258 : decode cL_decides 258 = .ok (.iload_n 1, 1) := by decide +kernel
theorem dL_decides_259 : decode cL_decides 259 = .ok (.iload_n 3, 1) := by decide +kernel
theorem dL_decides_260 : decode cL_decides 260 = .ok (.invokevirtual 59, 3) := by decide +kernel
theorem dL_decides_263 : decode cL_decides 263 = .ok (.bipush 20, 2) := by decide +kernel
theorem dL_decides_265 : decode cL_decides 265 = .ok (.if_icmp .eq 7, 3) := by decide +kernel
theorem dL_decides_268 : decode cL_decides 268 = .ok (.iconst 1, 1) := by decide +kernel
theorem dL_decides_269 : decode cL_decides 269 = .ok (.goto 4, 3) := by decide +kernel
theorem dL_decides_272 : decode cL_decides 272 = .ok (.iconst 0, 1) := by decide +kernel
theorem dL_decides_273 : decode cL_decides 273 = .ok (.if_icmp .ne 70, 3) := by decide +kernel
theorem dL_decides_276 : decode cL_decides 276 = .ok (.iload 10, 2) := by decide +kernel
theorem dL_decides_278 : decode cL_decides 278 = .ok (.ifCond .eq 15, 3) := by decide +kernel
theorem dL_decides_281 : decode cL_decides 281 = .ok (.iload 8, 2) := by decide +kernel
theorem dL_decides_283 : decode cL_decides 283 = .ok (.iload 4, 2) := by decide +kernel
theorem dL_decides_285 : decode cL_decides 285 = .ok (.iconst 1, 1) := by decide +kernel
theorem dL_decides_286 : decode cL_decides 286 = .ok (.iadd, 1) := by decide +kernel
theorem dL_decides_287 : decode cL_decides 287 = .ok (.iload 7, 2) := by decide +kernel
theorem dL_decides_289 : decode cL_decides 289 = .ok (.iadd, 1) := by decide +kernel
theorem dL_decides_290 : decode cL_decides 290 = .ok (.if_icmp .ne 53, 3) := by decide +kernel
theorem dL_decides_293 : decode cL_decides 293 = .ok (.aload_n 0, 1) := by decide +kernel
theorem dL_decides_294 : decode cL_decides 294 = .ok (.iload_n 1, 1) := by decide +kernel
theorem dL_decides_295 : decode cL_decides 295 = .ok (.invokevirtual 69, 3) := by decide +kernel
theorem dL_decides_298 : decode cL_decides 298 = .ok (.iload_n 3, 1) := by decide +kernel
theorem dL_decides_299 : decode cL_decides 299 = .ok (.iconst 1, 1) := by decide +kernel
theorem dL_decides_300 : decode cL_decides 300 = .ok (.iadd, 1) := by decide +kernel
theorem dL_decides_301 : decode cL_decides 301 = .ok (.if_icmp .ne 7, 3) := by decide +kernel
theorem dL_decides_304 : decode cL_decides 304 = .ok (.iconst 1, 1) := by decide +kernel
theorem dL_decides_305 : decode cL_decides 305 = .ok (.goto 4, 3) := by decide +kernel
theorem dL_decides_308 : decode cL_decides 308 = .ok (.iconst 0, 1) := by decide +kernel
theorem dL_decides_309 : decode cL_decides 309 = .ok (.iload 10, 2) := by decide +kernel
theorem dL_decides_311 : decode cL_decides 311 = .ok (.ifCond .eq 24, 3) := by decide +kernel
theorem dL_decides_314 : decode cL_decides 314 = .ok (.aload_n 0, 1) := by decide +kernel
theorem dL_decides_315 : decode cL_decides 315 = .ok (.iload_n 1, 1) := by decide +kernel
theorem dL_decides_316 : decode cL_decides 316 = .ok (.iload_n 3, 1) := by decide +kernel
theorem dL_decides_317 : decode cL_decides 317 = .ok (.iload 4, 2) := by decide +kernel
theorem dL_decides_319 : decode cL_decides 319 = .ok (.iload 7, 2) := by decide +kernel
theorem dL_decides_321 : decode cL_decides 321 = .ok (.iadd, 1) := by decide +kernel
theorem dL_decides_322 : decode cL_decides 322 = .ok (.iconst 1, 1) := by decide +kernel
theorem dL_decides_323 : decode cL_decides 323 = .ok (.invokevirtual 65, 3) := by decide +kernel
theorem dL_decides_326 : decode cL_decides 326 = .ok (.bipush 14, 2) := by decide +kernel
theorem dL_decides_328 : decode cL_decides 328 = .ok (.if_icmp .ne 7, 3) := by decide +kernel
theorem dL_decides_331 : decode cL_decides 331 = .ok (.iconst 1, 1) := by decide +kernel
theorem dL_decides_332 : decode cL_decides 332 = .ok (.goto 4, 3) := by decide +kernel
theorem dL_decides_335 : decode cL_decides 335 = .ok (.iconst 0, 1) := by decide +kernel
theorem dL_decides_336 : decode cL_decides 336 = .ok (.if_icmp .ne 7, 3) := by decide +kernel
theorem dL_decides_339 : decode cL_decides 339 = .ok (.iconst 1, 1) := by decide +kernel
theorem dL_decides_340 : decode cL_decides 340 = .ok (.goto 4, 3) := by decide +kernel
theorem dL_decides_343 : decode cL_decides 343 = .ok (.iconst 0, 1) := by decide +kernel
theorem dL_decides_344 : decode cL_decides 344 = .ok (.istore 9, 2) := by decide +kernel
theorem dL_decides_346 : decode cL_decides 346 = .ok (.iload 10, 2) := by decide +kernel
theorem dL_decides_348 : decode cL_decides 348 = .ok (.ifCond .eq 24, 3) := by decide +kernel
theorem dL_decides_351 : decode cL_decides 351 = .ok (.aload_n 0, 1) := by decide +kernel
theorem dL_decides_352 : decode cL_decides 352 = .ok (.iload_n 1, 1) := by decide +kernel
theorem dL_decides_353 : decode cL_decides 353 = .ok (.iload_n 3, 1) := by decide +kernel
theorem dL_decides_354 : decode cL_decides 354 = .ok (.iload 4, 2) := by decide +kernel
theorem dL_decides_356 : decode cL_decides 356 = .ok (.iload 7, 2) := by decide +kernel
theorem dL_decides_358 : decode cL_decides 358 = .ok (.iadd, 1) := by decide +kernel
theorem dL_decides_359 : decode cL_decides 359 = .ok (.iconst 0, 1) := by decide +kernel
theorem dL_decides_360 : decode cL_decides 360 = .ok (.invokevirtual 65, 3) := by decide +kernel
theorem dL_decides_363 : decode cL_decides 363 = .ok (.bipush 8, 2) := by decide +kernel
theorem dL_decides_365 : decode cL_decides 365 = .ok (.if_icmp .ne 7, 3) := by decide +kernel
theorem dL_decides_368 : decode cL_decides 368 = .ok (.iconst 1, 1) := by decide +kernel
theorem dL_decides_369 : decode cL_decides 369 = .ok (.goto 4, 3) := by decide +kernel
theorem dL_decides_372 : decode cL_decides 372 = .ok (.iconst 0, 1) := by decide +kernel
theorem dL_decides_373 : decode cL_decides 373 = .ok (.istore 11, 2) := by decide +kernel
theorem dL_decides_375 : decode cL_decides 375 = .ok (.iload 9, 2) := by decide +kernel
theorem dL_decides_377 : decode cL_decides 377 = .ok (.ifCond .eq 64, 3) := by decide +kernel
theorem dL_decides_380 : decode cL_decides 380 = .ok (.aload_n 0, 1) := by decide +kernel
theorem dL_decides_381 : decode cL_decides 381 = .ok (.iload_n 1, 1) := by decide +kernel
theorem dL_decides_382 : decode cL_decides 382 = .ok (.invokevirtual 69, 3) := by decide +kernel
theorem dL_decides_385 : decode cL_decides 385 = .ok (.iload_n 3, 1) := by decide +kernel
theorem dL_decides_386 : decode cL_decides 386 = .ok (.if_icmp .gt 26, 3) := by decide +kernel
theorem dL_decides_389 : decode cL_decides 389 = .ok (.iload 11, 2) := by decide +kernel
theorem dL_decides_391 : decode cL_decides 391 = .ok (.ifCond .ne 21, 3) := by decide +kernel
theorem dL_decides_394 : decode cL_decides 394 = .ok (.aload_n 0, 1) := by decide +kernel
theorem dL_decides_395 : decode cL_decides 395 = .ok (.bipush 8, 2) := by decide +kernel
theorem dL_decides_397 : decode cL_decides 397 = .ok (.iload_n 1, 1) := by decide +kernel
theorem dL_decides_398 : decode cL_decides 398 = .ok (.iload_n 2, 1) := by decide +kernel
theorem dL_decides_399 : decode cL_decides 399 = .ok (.iconst 0, 1) := by decide +kernel
theorem dL_decides_400 : decode cL_decides 400 = .ok (.iconst 0, 1) := by decide +kernel
theorem dL_decides_401 : decode cL_decides 401 = .ok (.invokestatic 85, 3) := by decide +kernel
theorem dL_decides_404 : decode cL_decides 404 = .ok (.aload_n 0, 1) := by decide +kernel
theorem dL_decides_405 : decode cL_decides 405 = .ok (.iload_n 1, 1) := by decide +kernel
theorem dL_decides_406 : decode cL_decides 406 = .ok (.invokevirtual 72, 3) := by decide +kernel
theorem dL_decides_409 : decode cL_decides 409 = .ok (.if_icmp .ne 32, 3) := by decide +kernel
theorem dL_decides_412 : decode cL_decides 412 = .ok (.iload 10, 2) := by decide +kernel
theorem dL_decides_414 : decode cL_decides 414 = .ok (.ifCond .ne 23, 3) := by decide +kernel
theorem dL_decides_417 : decode cL_decides 417 = .ok (.iload 8, 2) := by decide +kernel
theorem dL_decides_419 : decode cL_decides 419 = .ok (.iload 4, 2) := by decide +kernel
theorem dL_decides_421 : decode cL_decides 421 = .ok (.iconst 1, 1) := by decide +kernel
theorem dL_decides_422 : decode cL_decides 422 = .ok (.iadd, 1) := by decide +kernel
theorem dL_decides_423 : decode cL_decides 423 = .ok (.iload 7, 2) := by decide +kernel
theorem dL_decides_425 : decode cL_decides 425 = .ok (.iadd, 1) := by decide +kernel
theorem dL_decides_426 : decode cL_decides 426 = .ok (.if_icmp .gt 11, 3) := by decide +kernel
theorem dL_decides_429 : decode cL_decides 429 = .ok (.aload_n 0, 1) := by decide +kernel
theorem dL_decides_430 : decode cL_decides 430 = .ok (.iload_n 1, 1) := by decide +kernel
theorem dL_decides_431 : decode cL_decides 431 = .ok (.invokevirtual 81, 3) := by decide +kernel
theorem dL_decides_434 : decode cL_decides 434 = .ok (.ifCond .ne 7, 3) := by decide +kernel
theorem dL_decides_437 : decode cL_decides 437 = .ok (.iconst 1, 1) := by decide +kernel
theorem dL_decides_438 : decode cL_decides 438 = .ok (.goto 4, 3) := by decide +kernel
theorem dL_decides_441 : decode cL_decides 441 = .ok (.iconst 0, 1) := by decide +kernel
theorem dL_decides_442 : decode cL_decides 442 = .ok (.ireturn, 1) := by decide +kernel
theorem e_L_decides_142 (d : Nat) {l5 l7 : Int} {m : Mem} {v : Int} {m' : Mem} (h : L_decides_142 l5 l7 m = some (v, m')) : Ex (d + 48) fm_L_decides 142 [(3, 0), (3, 0), (3, 0), (3, 0), (3, 0), (0, l5), (3, 0), (0, l7), (3, 0), (3, 0), (3, 0), (3, 0)] [] m (.inl (0, v)) m' := by
  unfold L_decides_142 at h
  refine x_iload dL_decides_142 rfl (?_ : Ex _ _ 144 _ _ _ _ _)
  refine x_bipush dL_decides_144 kb_n2 (by decide) (?_ : Ex _ _ 146 _ _ _ _ _)
  rcases ite_some h with ⟨b1, h⟩ | ⟨b1, h⟩
  · refine x_icmp_neN dL_decides_146 (by decide) (fun hh => hh b1) (?_ : Ex _ _ 149 _ _ _ _ _)
    refine x_iload dL_decides_149 rfl (?_ : Ex _ _ 151 _ _ _ _ _)
    rcases ite_some h with ⟨b2, h⟩ | ⟨b2, h⟩
    · refine x_if_eq (tgt := 158) dL_decides_151 rfl b2 (?_ : Ex _ _ 158 _ _ _ _ _)
      refine x_iconst dL_decides_158 rfl (by decide) (?_ : Ex _ _ 159 _ _ _ _ _)
      cases h
      exact x_ret dL_decides_159 (by decide : (0 : Int) ≠ 3)
    · refine x_if_eqN dL_decides_151 (by decide) b2 (?_ : Ex _ _ 154 _ _ _ _ _)
      refine x_iconst dL_decides_154 rfl (by decide) (?_ : Ex _ _ 155 _ _ _ _ _)
      refine x_goto (tgt := 159) dL_decides_155 rfl (?_ : Ex _ _ 159 _ _ _ _ _)
      cases h
      exact x_ret dL_decides_159 (by decide : (0 : Int) ≠ 3)
  · refine x_icmp_ne (tgt := 154) dL_decides_146 rfl b1 (?_ : Ex _ _ 154 _ _ _ _ _)
    refine x_iconst dL_decides_154 rfl (by decide) (?_ : Ex _ _ 155 _ _ _ _ _)
    refine x_goto (tgt := 159) dL_decides_155 rfl (?_ : Ex _ _ 159 _ _ _ _ _)
    cases h
    exact x_ret dL_decides_159 (by decide : (0 : Int) ≠ 3)
theorem e_L_decides_128 (d : Nat) {l5 l7 s0 s1 : Int} {m : Mem} {v : Int} {m' : Mem} (h : L_decides_128 l5 l7 s0 s1 m = some (v, m')) : Ex (d + 48) fm_L_decides 128 [(3, 0), (3, 0), (3, 0), (3, 0), (3, 0), (0, l5), (3, 0), (0, l7), (3, 0), (3, 0), (3, 0), (3, 0)] [(0, s0), (0, s1)] m (.inl (0, v)) m' := by
  unfold L_decides_128 at h
  rcases ite_some h with ⟨b1, h⟩ | ⟨b1, h⟩
  · refine x_icmp_neN dL_decides_128 (by decide) (fun hh => hh b1) (?_ : Ex _ _ 131 _ _ _ _ _)
    refine x_iload dL_decides_131 rfl (?_ : Ex _ _ 133 _ _ _ _ _)
    refine x_iconst dL_decides_133 rfl (by decide) (?_ : Ex _ _ 134 _ _ _ _ _)
    rcases ite_some h with ⟨b2, h⟩ | ⟨b2, h⟩
    · refine x_icmp_neN dL_decides_134 (by decide) (fun hh => hh b2) (?_ : Ex _ _ 137 _ _ _ _ _)
      refine x_iload dL_decides_137 rfl (?_ : Ex _ _ 139 _ _ _ _ _)
      rcases ite_some h with ⟨b3, h⟩ | ⟨b3, h⟩
      · refine x_if_neN dL_decides_139 (by decide) (fun hh => hh b3) (?_ : Ex _ _ 142 _ _ _ _ _)
        exact e_L_decides_142 d h
      · refine x_if_ne (tgt := 158) dL_decides_139 rfl b3 (?_ : Ex _ _ 158 _ _ _ _ _)
        refine x_iconst dL_decides_158 rfl (by decide) (?_ : Ex _ _ 159 _ _ _ _ _)
        cases h
        exact x_ret dL_decides_159 (by decide : (0 : Int) ≠ 3)
    · refine x_icmp_ne (tgt := 142) dL_decides_134 rfl b2 (?_ : Ex _ _ 142 _ _ _ _ _)
      exact e_L_decides_142 d h
  · refine x_icmp_ne (tgt := 158) dL_decides_128 rfl b1 (?_ : Ex _ _ 158 _ _ _ _ _)
    refine x_iconst dL_decides_158 rfl (by decide) (?_ : Ex _ _ 159 _ _ _ _ _)
    cases h
    exact x_ret dL_decides_159 (by decide : (0 : Int) ≠ 3)
theorem e_L_decides_116 (d : Nat) {l5 l6 l7 s0 : Int} {m : Mem} {v : Int} {m' : Mem} (h : L_decides_116 l5 l6 l7 s0 m = some (v, m')) : Ex (d + 48) fm_L_decides 116 [(3, 0), (3, 0), (3, 0), (3, 0), (3, 0), (0, l5), (0, l6), (0, l7), (3, 0), (3, 0), (3, 0), (3, 0)] [(0, s0)] m (.inl (0, v)) m' := by
  unfold L_decides_116 at h
  refine x_iload dL_decides_116 rfl (?_ : Ex _ _ 118 _ _ _ _ _)
  refine x_bipush dL_decides_118 kb_20 (by decide) (?_ : Ex _ _ 120 _ _ _ _ _)
  rcases ite_some h with ⟨b1, h⟩ | ⟨b1, h⟩
  · refine x_icmp_eq (tgt := 127) dL_decides_120 rfl b1 (?_ : Ex _ _ 127 _ _ _ _ _)
    refine x_iconst dL_decides_127 rfl (by decide) (?_ : Ex _ _ 128 _ _ _ _ _)
    refine Ex.wk (ls2 := [(3, 0), (3, 0), (3, 0), (3, 0), (3, 0), (0, l5), (3, 0), (0, l7), (3, 0), (3, 0), (3, 0), (3, 0)]) ⟨Or.inl rfl, Or.inl rfl, Or.inl rfl, Or.inl rfl, Or.inl rfl, Or.inr rfl, Or.inl rfl, Or.inr rfl, Or.inl rfl, Or.inl rfl, Or.inl rfl, Or.inl rfl, trivial⟩ ?_
    exact e_L_decides_128 d h
  · refine x_icmp_eqN dL_decides_120 (by decide) b1 (?_ : Ex _ _ 123 _ _ _ _ _)
    refine x_iconst dL_decides_123 rfl (by decide) (?_ : Ex _ _ 124 _ _ _ _ _)
    refine x_goto (tgt := 128) dL_decides_124 rfl (?_ : Ex _ _ 128 _ _ _ _ _)
    refine Ex.wk (ls2 := [(3, 0), (3, 0), (3, 0), (3, 0), (3, 0), (0, l5), (3, 0), (0, l7), (3, 0), (3, 0), (3, 0), (3, 0)]) ⟨Or.inl rfl, Or.inl rfl, Or.inl rfl, Or.inl rfl, Or.inl rfl, Or.inr rfl, Or.inl rfl, Or.inr rfl, Or.inl rfl, Or.inl rfl, Or.inl rfl, Or.inl rfl, trivial⟩ ?_
    exact e_L_decides_128 d h
theorem e_L_decides_88 (d : Nat) {l0 l1 l3 l4 l5 l6 l7 l8 : Int} {m : Mem} {v : Int} {m' : Mem} (h : L_decides_88 l0 l1 l3 l4 l5 l6 l7 l8 m = some (v, m')) : Ex (d + 48) fm_L_decides 88 [(21, l0), (0, l1), (3, 0), (0, l3), (0, l4), (0, l5), (0, l6), (0, l7), (0, l8), (3, 0), (3, 0), (3, 0)] [] m (.inl (0, v)) m' := by
  unfold L_decides_88 at h
  refine x_iload dL_decides_88 rfl (?_ : Ex _ _ 90 _ _ _ _ _)
  refine x_iload dL_decides_90 rfl (?_ : Ex _ _ 92 _ _ _ _ _)
  rcases ite_some h with ⟨b1, h⟩ | ⟨b1, h⟩
  · refine x_icmp_neN dL_decides_92 (by decide) (fun hh => hh b1) (?_ : Ex _ _ 95 _ _ _ _ _)
    refine x_aload_n dL_decides_95 rfl rfl (Or.inr (by decide)) (?_ : Ex _ _ 96 _ _ _ _ _)
    refine x_iload_n dL_decides_96 rfl rfl (?_ : Ex _ _ 97 _ _ _ _ _)
    obtain ⟨c2, h⟩ := chk_some h
    obtain ⟨v3, m4, g5, h⟩ := cal0_some h
    refine cV1 (e_X11_runs (d + 45) g5) (cont0 (by decide) (?_ : Ex _ _ 100 _ _ _ _ _)) og_X11_runs rfl ml_RL_69 11 rfl rfl c2 im_X11_runs se_X11_runs (Nat.le_of_ble_eq_true rfl) dL_decides_97
    refine x_iload_n dL_decides_100 rfl rfl (?_ : Ex _ _ 101 _ _ _ _ _)
    rcases ite_some h with ⟨b6, h⟩ | ⟨b6, h⟩
    · refine x_icmp_neN dL_decides_101 (by decide) (fun hh => hh b6) (?_ : Ex _ _ 104 _ _ _ _ _)
      refine x_iload dL_decides_104 rfl (?_ : Ex _ _ 106 _ _ _ _ _)
      refine x_ldc (x := (-90003)) kc_RL_55 dL_decides_106 (by decide +kernel) (by decide) (?_ : Ex _ _ 108 _ _ _ _ _)
      rcases ite_some h with ⟨b7, h⟩ | ⟨b7, h⟩
      · refine x_icmp_neN dL_decides_108 (by decide) (fun hh => hh b7) (?_ : Ex _ _ 111 _ _ _ _ _)
        refine x_iconst dL_decides_111 rfl (by decide) (?_ : Ex _ _ 112 _ _ _ _ _)
        refine x_goto (tgt := 116) dL_decides_112 rfl (?_ : Ex _ _ 116 _ _ _ _ _)
        refine Ex.wk (ls2 := [(3, 0), (3, 0), (3, 0), (3, 0), (3, 0), (0, l5), (0, l6), (0, l7), (3, 0), (3, 0), (3, 0), (3, 0)]) ⟨Or.inl rfl, Or.inl rfl, Or.inl rfl, Or.inl rfl, Or.inl rfl, Or.inr rfl, Or.inr rfl, Or.inr rfl, Or.inl rfl, Or.inl rfl, Or.inl rfl, Or.inl rfl, trivial⟩ ?_
        exact e_L_decides_116 d h
      · refine x_icmp_ne (tgt := 115) dL_decides_108 rfl b7 (?_ : Ex _ _ 115 _ _ _ _ _)
        refine x_iconst dL_decides_115 rfl (by decide) (?_ : Ex _ _ 116 _ _ _ _ _)
        refine Ex.wk (ls2 := [(3, 0), (3, 0), (3, 0), (3, 0), (3, 0), (0, l5), (0, l6), (0, l7), (3, 0), (3, 0), (3, 0), (3, 0)]) ⟨Or.inl rfl, Or.inl rfl, Or.inl rfl, Or.inl rfl, Or.inl rfl, Or.inr rfl, Or.inr rfl, Or.inr rfl, Or.inl rfl, Or.inl rfl, Or.inl rfl, Or.inl rfl, trivial⟩ ?_
        exact e_L_decides_116 d h
    · refine x_icmp_ne (tgt := 158) dL_decides_101 rfl b6 (?_ : Ex _ _ 158 _ _ _ _ _)
      refine x_iconst dL_decides_158 rfl (by decide) (?_ : Ex _ _ 159 _ _ _ _ _)
      cases h
      exact x_ret dL_decides_159 (by decide : (0 : Int) ≠ 3)
  · refine x_icmp_ne (tgt := 158) dL_decides_92 rfl b1 (?_ : Ex _ _ 158 _ _ _ _ _)
    refine x_iconst dL_decides_158 rfl (by decide) (?_ : Ex _ _ 159 _ _ _ _ _)
    cases h
    exact x_ret dL_decides_159 (by decide : (0 : Int) ≠ 3)
theorem e_L_decides_412 (d : Nat) {l0 l1 l4 l7 l8 l10 : Int} {m : Mem} {v : Int} {m' : Mem} (h : L_decides_412 l0 l1 l4 l7 l8 l10 m = some (v, m')) : Ex (d + 48) fm_L_decides 412 [(21, l0), (0, l1), (3, 0), (3, 0), (0, l4), (3, 0), (3, 0), (0, l7), (0, l8), (3, 0), (0, l10), (3, 0)] [] m (.inl (0, v)) m' := by
  unfold L_decides_412 at h
  refine x_iload dL_decides_412 rfl (?_ : Ex _ _ 414 _ _ _ _ _)
  rcases ite_some h with ⟨b1, h⟩ | ⟨b1, h⟩
  · refine x_if_neN dL_decides_414 (by decide) (fun hh => hh b1) (?_ : Ex _ _ 417 _ _ _ _ _)
    refine x_iload dL_decides_417 rfl (?_ : Ex _ _ 419 _ _ _ _ _)
    refine x_iload dL_decides_419 rfl (?_ : Ex _ _ 421 _ _ _ _ _)
    refine x_iconst dL_decides_421 rfl (by decide) (?_ : Ex _ _ 422 _ _ _ _ _)
    obtain ⟨c2, h⟩ := chk_some h
    refine x_iadd dL_decides_422 c2 (?_ : Ex _ _ 423 _ _ _ _ _)
    refine x_iload dL_decides_423 rfl (?_ : Ex _ _ 425 _ _ _ _ _)
    obtain ⟨c3, h⟩ := chk_some h
    refine x_iadd dL_decides_425 c3 (?_ : Ex _ _ 426 _ _ _ _ _)
    rcases ite_some h with ⟨b4, h⟩ | ⟨b4, h⟩
    · refine x_icmp_gt (tgt := 437) dL_decides_426 rfl b4 (?_ : Ex _ _ 437 _ _ _ _ _)
      refine x_iconst dL_decides_437 rfl (by decide) (?_ : Ex _ _ 438 _ _ _ _ _)
      refine x_goto (tgt := 442) dL_decides_438 rfl (?_ : Ex _ _ 442 _ _ _ _ _)
      cases h
      exact x_ret dL_decides_442 (by decide : (0 : Int) ≠ 3)
    · refine x_icmp_gtN dL_decides_426 (by decide) b4 (?_ : Ex _ _ 429 _ _ _ _ _)
      refine x_aload_n dL_decides_429 rfl rfl (Or.inr (by decide)) (?_ : Ex _ _ 430 _ _ _ _ _)
      refine x_iload_n dL_decides_430 rfl rfl (?_ : Ex _ _ 431 _ _ _ _ _)
      obtain ⟨c5, h⟩ := chk_some h
      obtain ⟨v6, m7, g8, h⟩ := cal0_some h
      refine cV1 (e_X11_isDue (d + 45) g8) (cont0 (by decide) (?_ : Ex _ _ 434 _ _ _ _ _)) og_X11_isDue rfl ml_RL_81 11 rfl rfl c5 im_X11_isDue se_X11_isDue (Nat.le_of_ble_eq_true rfl) dL_decides_431
      rcases ite_some h with ⟨b9, h⟩ | ⟨b9, h⟩
      · refine x_if_neN dL_decides_434 (by decide) (fun hh => hh b9) (?_ : Ex _ _ 437 _ _ _ _ _)
        refine x_iconst dL_decides_437 rfl (by decide) (?_ : Ex _ _ 438 _ _ _ _ _)
        refine x_goto (tgt := 442) dL_decides_438 rfl (?_ : Ex _ _ 442 _ _ _ _ _)
        cases h
        exact x_ret dL_decides_442 (by decide : (0 : Int) ≠ 3)
      · refine x_if_ne (tgt := 441) dL_decides_434 rfl b9 (?_ : Ex _ _ 441 _ _ _ _ _)
        refine x_iconst dL_decides_441 rfl (by decide) (?_ : Ex _ _ 442 _ _ _ _ _)
        cases h
        exact x_ret dL_decides_442 (by decide : (0 : Int) ≠ 3)
  · refine x_if_ne (tgt := 437) dL_decides_414 rfl b1 (?_ : Ex _ _ 437 _ _ _ _ _)
    refine x_iconst dL_decides_437 rfl (by decide) (?_ : Ex _ _ 438 _ _ _ _ _)
    refine x_goto (tgt := 442) dL_decides_438 rfl (?_ : Ex _ _ 442 _ _ _ _ _)
    cases h
    exact x_ret dL_decides_442 (by decide : (0 : Int) ≠ 3)
theorem e_L_decides_373 (d : Nat) {l0 l1 l2 l3 l4 l7 l8 l9 l10 s0 : Int} {m : Mem} {v : Int} {m' : Mem} (h : L_decides_373 l0 l1 l2 l3 l4 l7 l8 l9 l10 s0 m = some (v, m')) : Ex (d + 48) fm_L_decides 373 [(21, l0), (0, l1), (0, l2), (0, l3), (0, l4), (3, 0), (3, 0), (0, l7), (0, l8), (0, l9), (0, l10), (3, 0)] [(0, s0)] m (.inl (0, v)) m' := by
  unfold L_decides_373 at h
  refine x_istore (ls2 := [(21, l0), (0, l1), (0, l2), (0, l3), (0, l4), (3, 0), (3, 0), (0, l7), (0, l8), (0, l9), (0, l10), (0, s0)]) dL_decides_373 (Nat.le_of_ble_eq_true rfl) rfl (?_ : Ex _ _ 375 _ _ _ _ _)
  refine x_iload dL_decides_375 rfl (?_ : Ex _ _ 377 _ _ _ _ _)
  rcases ite_some h with ⟨b1, h⟩ | ⟨b1, h⟩
  · refine x_if_eq (tgt := 441) dL_decides_377 rfl b1 (?_ : Ex _ _ 441 _ _ _ _ _)
    refine x_iconst dL_decides_441 rfl (by decide) (?_ : Ex _ _ 442 _ _ _ _ _)
    cases h
    exact x_ret dL_decides_442 (by decide : (0 : Int) ≠ 3)
  · refine x_if_eqN dL_decides_377 (by decide) b1 (?_ : Ex _ _ 380 _ _ _ _ _)
    refine x_aload_n dL_decides_380 rfl rfl (Or.inr (by decide)) (?_ : Ex _ _ 381 _ _ _ _ _)
    refine x_iload_n dL_decides_381 rfl rfl (?_ : Ex _ _ 382 _ _ _ _ _)
    obtain ⟨c2, h⟩ := chk_some h
    obtain ⟨v3, m4, g5, h⟩ := cal0_some h
    refine cV1 (e_X11_runs (d + 45) g5) (cont0 (by decide) (?_ : Ex _ _ 385 _ _ _ _ _)) og_X11_runs rfl ml_RL_69 11 rfl rfl c2 im_X11_runs se_X11_runs (Nat.le_of_ble_eq_true rfl) dL_decides_382
    refine x_iload_n dL_decides_385 rfl rfl (?_ : Ex _ _ 386 _ _ _ _ _)
    rcases ite_some h with ⟨b6, h⟩ | ⟨b6, h⟩
    · refine x_icmp_gt (tgt := 412) dL_decides_386 rfl b6 (?_ : Ex _ _ 412 _ _ _ _ _)
      refine Ex.wk (ls2 := [(21, l0), (0, l1), (3, 0), (3, 0), (0, l4), (3, 0), (3, 0), (0, l7), (0, l8), (3, 0), (0, l10), (3, 0)]) ⟨Or.inr rfl, Or.inr rfl, Or.inl rfl, Or.inl rfl, Or.inr rfl, Or.inl rfl, Or.inl rfl, Or.inr rfl, Or.inr rfl, Or.inl rfl, Or.inr rfl, Or.inl rfl, trivial⟩ ?_
      exact e_L_decides_412 d h
    · refine x_icmp_gtN dL_decides_386 (by decide) b6 (?_ : Ex _ _ 389 _ _ _ _ _)
      refine x_iload dL_decides_389 rfl (?_ : Ex _ _ 391 _ _ _ _ _)
      rcases ite_some h with ⟨b7, h⟩ | ⟨b7, h⟩
      · refine x_if_neN dL_decides_391 (by decide) (fun hh => hh b7) (?_ : Ex _ _ 394 _ _ _ _ _)
        refine x_aload_n dL_decides_394 rfl rfl (Or.inr (by decide)) (?_ : Ex _ _ 395 _ _ _ _ _)
        refine x_bipush dL_decides_395 kb_8 (by decide) (?_ : Ex _ _ 397 _ _ _ _ _)
        refine x_iload_n dL_decides_397 rfl rfl (?_ : Ex _ _ 398 _ _ _ _ _)
        refine x_iload_n dL_decides_398 rfl rfl (?_ : Ex _ _ 399 _ _ _ _ _)
        refine x_iconst dL_decides_399 rfl (by decide) (?_ : Ex _ _ 400 _ _ _ _ _)
        refine x_iconst dL_decides_400 rfl (by decide) (?_ : Ex _ _ 401 _ _ _ _ _)
        obtain ⟨v8, m9, g10, h⟩ := cal_some h
        refine cW6 (e_L_on d g10) (by decide) (?_ : Ex _ _ 404 _ _ _ _ _) og_L_on (List.cons_ne_nil _ _) ml_RL_85 sm_L_on (Nat.le_of_ble_eq_true rfl) dL_decides_401
        refine x_aload_n dL_decides_404 rfl rfl (Or.inr (by decide)) (?_ : Ex _ _ 405 _ _ _ _ _)
        refine x_iload_n dL_decides_405 rfl rfl (?_ : Ex _ _ 406 _ _ _ _ _)
        obtain ⟨v11, m12, g13, h⟩ := cal0_some h
        refine cV1 (e_X11_register (d + 45) g13) (cont0 (by decide) (?_ : Ex _ _ 409 _ _ _ _ _)) og_X11_register rfl ml_RL_72 11 rfl rfl c2 im_X11_register se_X11_register (Nat.le_of_ble_eq_true rfl) dL_decides_406
        rcases ite_some h with ⟨b14, h⟩ | ⟨b14, h⟩
        · refine x_icmp_neN dL_decides_409 (by decide) (fun hh => hh b14) (?_ : Ex _ _ 412 _ _ _ _ _)
          refine Ex.wk (ls2 := [(21, l0), (0, l1), (3, 0), (3, 0), (0, l4), (3, 0), (3, 0), (0, l7), (0, l8), (3, 0), (0, l10), (3, 0)]) ⟨Or.inr rfl, Or.inr rfl, Or.inl rfl, Or.inl rfl, Or.inr rfl, Or.inl rfl, Or.inl rfl, Or.inr rfl, Or.inr rfl, Or.inl rfl, Or.inr rfl, Or.inl rfl, trivial⟩ ?_
          exact e_L_decides_412 d h
        · refine x_icmp_ne (tgt := 441) dL_decides_409 rfl b14 (?_ : Ex _ _ 441 _ _ _ _ _)
          refine x_iconst dL_decides_441 rfl (by decide) (?_ : Ex _ _ 442 _ _ _ _ _)
          cases h
          exact x_ret dL_decides_442 (by decide : (0 : Int) ≠ 3)
      · refine x_if_ne (tgt := 412) dL_decides_391 rfl b7 (?_ : Ex _ _ 412 _ _ _ _ _)
        refine Ex.wk (ls2 := [(21, l0), (0, l1), (3, 0), (3, 0), (0, l4), (3, 0), (3, 0), (0, l7), (0, l8), (3, 0), (0, l10), (3, 0)]) ⟨Or.inr rfl, Or.inr rfl, Or.inl rfl, Or.inl rfl, Or.inr rfl, Or.inl rfl, Or.inl rfl, Or.inr rfl, Or.inr rfl, Or.inl rfl, Or.inr rfl, Or.inl rfl, trivial⟩ ?_
        exact e_L_decides_412 d h
theorem e_L_decides_344 (d : Nat) {l0 l1 l2 l3 l4 l7 l8 l10 s0 : Int} {m : Mem} {v : Int} {m' : Mem} (h : L_decides_344 l0 l1 l2 l3 l4 l7 l8 l10 s0 m = some (v, m')) : Ex (d + 48) fm_L_decides 344 [(21, l0), (0, l1), (0, l2), (0, l3), (0, l4), (3, 0), (3, 0), (0, l7), (0, l8), (3, 0), (0, l10), (3, 0)] [(0, s0)] m (.inl (0, v)) m' := by
  unfold L_decides_344 at h
  refine x_istore (ls2 := [(21, l0), (0, l1), (0, l2), (0, l3), (0, l4), (3, 0), (3, 0), (0, l7), (0, l8), (0, s0), (0, l10), (3, 0)]) dL_decides_344 (Nat.le_of_ble_eq_true rfl) rfl (?_ : Ex _ _ 346 _ _ _ _ _)
  refine x_iload dL_decides_346 rfl (?_ : Ex _ _ 348 _ _ _ _ _)
  rcases ite_some h with ⟨b1, h⟩ | ⟨b1, h⟩
  · refine x_if_eq (tgt := 372) dL_decides_348 rfl b1 (?_ : Ex _ _ 372 _ _ _ _ _)
    refine x_iconst dL_decides_372 rfl (by decide) (?_ : Ex _ _ 373 _ _ _ _ _)
    exact e_L_decides_373 d h
  · refine x_if_eqN dL_decides_348 (by decide) b1 (?_ : Ex _ _ 351 _ _ _ _ _)
    refine x_aload_n dL_decides_351 rfl rfl (Or.inr (by decide)) (?_ : Ex _ _ 352 _ _ _ _ _)
    refine x_iload_n dL_decides_352 rfl rfl (?_ : Ex _ _ 353 _ _ _ _ _)
    refine x_iload_n dL_decides_353 rfl rfl (?_ : Ex _ _ 354 _ _ _ _ _)
    refine x_iload dL_decides_354 rfl (?_ : Ex _ _ 356 _ _ _ _ _)
    refine x_iload dL_decides_356 rfl (?_ : Ex _ _ 358 _ _ _ _ _)
    obtain ⟨c2, h⟩ := chk_some h
    refine x_iadd dL_decides_358 c2 (?_ : Ex _ _ 359 _ _ _ _ _)
    refine x_iconst dL_decides_359 rfl (by decide) (?_ : Ex _ _ 360 _ _ _ _ _)
    obtain ⟨c3, h⟩ := chk_some h
    obtain ⟨v4, m5, g6, h⟩ := cal0_some h
    refine cV4 (e_X11_eventNumber (d + 43) g6) (cont0 (by decide) (?_ : Ex _ _ 363 _ _ _ _ _)) og_X11_eventNumber rfl ml_RL_65 11 rfl rfl c3 im_X11_eventNumber se_X11_eventNumber (Nat.le_of_ble_eq_true rfl) dL_decides_360
    refine x_bipush dL_decides_363 kb_8 (by decide) (?_ : Ex _ _ 365 _ _ _ _ _)
    rcases ite_some h with ⟨b7, h⟩ | ⟨b7, h⟩
    · refine x_icmp_neN dL_decides_365 (by decide) (fun hh => hh b7) (?_ : Ex _ _ 368 _ _ _ _ _)
      refine x_iconst dL_decides_368 rfl (by decide) (?_ : Ex _ _ 369 _ _ _ _ _)
      refine x_goto (tgt := 373) dL_decides_369 rfl (?_ : Ex _ _ 373 _ _ _ _ _)
      exact e_L_decides_373 d h
    · refine x_icmp_ne (tgt := 372) dL_decides_365 rfl b7 (?_ : Ex _ _ 372 _ _ _ _ _)
      refine x_iconst dL_decides_372 rfl (by decide) (?_ : Ex _ _ 373 _ _ _ _ _)
      exact e_L_decides_373 d h
theorem e_L_decides_336 (d : Nat) {l0 l1 l2 l3 l4 l7 l8 l10 s0 s1 : Int} {m : Mem} {v : Int} {m' : Mem} (h : L_decides_336 l0 l1 l2 l3 l4 l7 l8 l10 s0 s1 m = some (v, m')) : Ex (d + 48) fm_L_decides 336 [(21, l0), (0, l1), (0, l2), (0, l3), (0, l4), (3, 0), (3, 0), (0, l7), (0, l8), (3, 0), (0, l10), (3, 0)] [(0, s0), (0, s1)] m (.inl (0, v)) m' := by
  unfold L_decides_336 at h
  rcases ite_some h with ⟨b1, h⟩ | ⟨b1, h⟩
  · refine x_icmp_neN dL_decides_336 (by decide) (fun hh => hh b1) (?_ : Ex _ _ 339 _ _ _ _ _)
    refine x_iconst dL_decides_339 rfl (by decide) (?_ : Ex _ _ 340 _ _ _ _ _)
    refine x_goto (tgt := 344) dL_decides_340 rfl (?_ : Ex _ _ 344 _ _ _ _ _)
    exact e_L_decides_344 d h
  · refine x_icmp_ne (tgt := 343) dL_decides_336 rfl b1 (?_ : Ex _ _ 343 _ _ _ _ _)
    refine x_iconst dL_decides_343 rfl (by decide) (?_ : Ex _ _ 344 _ _ _ _ _)
    exact e_L_decides_344 d h
theorem e_L_decides_309 (d : Nat) {l0 l1 l2 l3 l4 l7 l8 l10 s0 : Int} {m : Mem} {v : Int} {m' : Mem} (h : L_decides_309 l0 l1 l2 l3 l4 l7 l8 l10 s0 m = some (v, m')) : Ex (d + 48) fm_L_decides 309 [(21, l0), (0, l1), (0, l2), (0, l3), (0, l4), (3, 0), (3, 0), (0, l7), (0, l8), (3, 0), (0, l10), (3, 0)] [(0, s0)] m (.inl (0, v)) m' := by
  unfold L_decides_309 at h
  refine x_iload dL_decides_309 rfl (?_ : Ex _ _ 311 _ _ _ _ _)
  rcases ite_some h with ⟨b1, h⟩ | ⟨b1, h⟩
  · refine x_if_eq (tgt := 335) dL_decides_311 rfl b1 (?_ : Ex _ _ 335 _ _ _ _ _)
    refine x_iconst dL_decides_335 rfl (by decide) (?_ : Ex _ _ 336 _ _ _ _ _)
    exact e_L_decides_336 d h
  · refine x_if_eqN dL_decides_311 (by decide) b1 (?_ : Ex _ _ 314 _ _ _ _ _)
    refine x_aload_n dL_decides_314 rfl rfl (Or.inr (by decide)) (?_ : Ex _ _ 315 _ _ _ _ _)
    refine x_iload_n dL_decides_315 rfl rfl (?_ : Ex _ _ 316 _ _ _ _ _)
    refine x_iload_n dL_decides_316 rfl rfl (?_ : Ex _ _ 317 _ _ _ _ _)
    refine x_iload dL_decides_317 rfl (?_ : Ex _ _ 319 _ _ _ _ _)
    refine x_iload dL_decides_319 rfl (?_ : Ex _ _ 321 _ _ _ _ _)
    obtain ⟨c2, h⟩ := chk_some h
    refine x_iadd dL_decides_321 c2 (?_ : Ex _ _ 322 _ _ _ _ _)
    refine x_iconst dL_decides_322 rfl (by decide) (?_ : Ex _ _ 323 _ _ _ _ _)
    obtain ⟨c3, h⟩ := chk_some h
    obtain ⟨v4, m5, g6, h⟩ := cal0_some h
    refine cV4 (e_X11_eventNumber (d + 43) g6) (cont0 (by decide) (?_ : Ex _ _ 326 _ _ _ _ _)) og_X11_eventNumber rfl ml_RL_65 11 rfl rfl c3 im_X11_eventNumber se_X11_eventNumber (Nat.le_of_ble_eq_true rfl) dL_decides_323
    refine x_bipush dL_decides_326 kb_14 (by decide) (?_ : Ex _ _ 328 _ _ _ _ _)
    rcases ite_some h with ⟨b7, h⟩ | ⟨b7, h⟩
    · refine x_icmp_neN dL_decides_328 (by decide) (fun hh => hh b7) (?_ : Ex _ _ 331 _ _ _ _ _)
      refine x_iconst dL_decides_331 rfl (by decide) (?_ : Ex _ _ 332 _ _ _ _ _)
      refine x_goto (tgt := 336) dL_decides_332 rfl (?_ : Ex _ _ 336 _ _ _ _ _)
      exact e_L_decides_336 d h
    · refine x_icmp_ne (tgt := 335) dL_decides_328 rfl b7 (?_ : Ex _ _ 335 _ _ _ _ _)
      refine x_iconst dL_decides_335 rfl (by decide) (?_ : Ex _ _ 336 _ _ _ _ _)
      exact e_L_decides_336 d h
theorem e_L_decides_293 (d : Nat) {l0 l1 l2 l3 l4 l7 l8 l10 : Int} {m : Mem} {v : Int} {m' : Mem} (h : L_decides_293 l0 l1 l2 l3 l4 l7 l8 l10 m = some (v, m')) : Ex (d + 48) fm_L_decides 293 [(21, l0), (0, l1), (0, l2), (0, l3), (0, l4), (3, 0), (3, 0), (0, l7), (0, l8), (3, 0), (0, l10), (3, 0)] [] m (.inl (0, v)) m' := by
  unfold L_decides_293 at h
  refine x_aload_n dL_decides_293 rfl rfl (Or.inr (by decide)) (?_ : Ex _ _ 294 _ _ _ _ _)
  refine x_iload_n dL_decides_294 rfl rfl (?_ : Ex _ _ 295 _ _ _ _ _)
  obtain ⟨c1, h⟩ := chk_some h
  obtain ⟨v2, m3, g4, h⟩ := cal0_some h
  refine cV1 (e_X11_runs (d + 45) g4) (cont0 (by decide) (?_ : Ex _ _ 298 _ _ _ _ _)) og_X11_runs rfl ml_RL_69 11 rfl rfl c1 im_X11_runs se_X11_runs (Nat.le_of_ble_eq_true rfl) dL_decides_295
  refine x_iload_n dL_decides_298 rfl rfl (?_ : Ex _ _ 299 _ _ _ _ _)
  refine x_iconst dL_decides_299 rfl (by decide) (?_ : Ex _ _ 300 _ _ _ _ _)
  obtain ⟨c5, h⟩ := chk_some h
  refine x_iadd dL_decides_300 c5 (?_ : Ex _ _ 301 _ _ _ _ _)
  rcases ite_some h with ⟨b6, h⟩ | ⟨b6, h⟩
  · refine x_icmp_neN dL_decides_301 (by decide) (fun hh => hh b6) (?_ : Ex _ _ 304 _ _ _ _ _)
    refine x_iconst dL_decides_304 rfl (by decide) (?_ : Ex _ _ 305 _ _ _ _ _)
    refine x_goto (tgt := 309) dL_decides_305 rfl (?_ : Ex _ _ 309 _ _ _ _ _)
    exact e_L_decides_309 d h
  · refine x_icmp_ne (tgt := 308) dL_decides_301 rfl b6 (?_ : Ex _ _ 308 _ _ _ _ _)
    refine x_iconst dL_decides_308 rfl (by decide) (?_ : Ex _ _ 309 _ _ _ _ _)
    exact e_L_decides_309 d h
theorem e_L_decides_273 (d : Nat) {l0 l1 l2 l3 l4 l7 l8 l10 s0 s1 : Int} {m : Mem} {v : Int} {m' : Mem} (h : L_decides_273 l0 l1 l2 l3 l4 l7 l8 l10 s0 s1 m = some (v, m')) : Ex (d + 48) fm_L_decides 273 [(21, l0), (0, l1), (0, l2), (0, l3), (0, l4), (3, 0), (3, 0), (0, l7), (0, l8), (3, 0), (0, l10), (3, 0)] [(0, s0), (0, s1)] m (.inl (0, v)) m' := by
  unfold L_decides_273 at h
  rcases ite_some h with ⟨b1, h⟩ | ⟨b1, h⟩
  · refine x_icmp_neN dL_decides_273 (by decide) (fun hh => hh b1) (?_ : Ex _ _ 276 _ _ _ _ _)
    refine x_iload dL_decides_276 rfl (?_ : Ex _ _ 278 _ _ _ _ _)
    rcases ite_some h with ⟨b2, h⟩ | ⟨b2, h⟩
    · refine x_if_eq (tgt := 293) dL_decides_278 rfl b2 (?_ : Ex _ _ 293 _ _ _ _ _)
      exact e_L_decides_293 d h
    · refine x_if_eqN dL_decides_278 (by decide) b2 (?_ : Ex _ _ 281 _ _ _ _ _)
      refine x_iload dL_decides_281 rfl (?_ : Ex _ _ 283 _ _ _ _ _)
      refine x_iload dL_decides_283 rfl (?_ : Ex _ _ 285 _ _ _ _ _)
      refine x_iconst dL_decides_285 rfl (by decide) (?_ : Ex _ _ 286 _ _ _ _ _)
      obtain ⟨c3, h⟩ := chk_some h
      refine x_iadd dL_decides_286 c3 (?_ : Ex _ _ 287 _ _ _ _ _)
      refine x_iload dL_decides_287 rfl (?_ : Ex _ _ 289 _ _ _ _ _)
      obtain ⟨c4, h⟩ := chk_some h
      refine x_iadd dL_decides_289 c4 (?_ : Ex _ _ 290 _ _ _ _ _)
      rcases ite_some h with ⟨b5, h⟩ | ⟨b5, h⟩
      · refine x_icmp_neN dL_decides_290 (by decide) (fun hh => hh b5) (?_ : Ex _ _ 293 _ _ _ _ _)
        exact e_L_decides_293 d h
      · refine x_icmp_ne (tgt := 343) dL_decides_290 rfl b5 (?_ : Ex _ _ 343 _ _ _ _ _)
        refine x_iconst dL_decides_343 rfl (by decide) (?_ : Ex _ _ 344 _ _ _ _ _)
        exact e_L_decides_344 d h
  · refine x_icmp_ne (tgt := 343) dL_decides_273 rfl b1 (?_ : Ex _ _ 343 _ _ _ _ _)
    refine x_iconst dL_decides_343 rfl (by decide) (?_ : Ex _ _ 344 _ _ _ _ _)
    exact e_L_decides_344 d h
theorem e_L_decides_248 (d : Nat) {l0 l1 l2 l3 l4 l7 l8 l9 s0 : Int} {m : Mem} {v : Int} {m' : Mem} (h : L_decides_248 l0 l1 l2 l3 l4 l7 l8 l9 s0 m = some (v, m')) : Ex (d + 48) fm_L_decides 248 [(21, l0), (0, l1), (0, l2), (0, l3), (0, l4), (3, 0), (3, 0), (0, l7), (0, l8), (0, l9), (3, 0), (3, 0)] [(0, s0)] m (.inl (0, v)) m' := by
  unfold L_decides_248 at h
  refine x_istore (ls2 := [(21, l0), (0, l1), (0, l2), (0, l3), (0, l4), (3, 0), (3, 0), (0, l7), (0, l8), (0, l9), (0, s0), (3, 0)]) dL_decides_248 (Nat.le_of_ble_eq_true rfl) rfl (?_ : Ex _ _ 250 _ _ _ _ _)
  refine x_iload dL_decides_250 rfl (?_ : Ex _ _ 252 _ _ _ _ _)
  rcases ite_some h with ⟨b1, h⟩ | ⟨b1, h⟩
  · refine x_if_eq (tgt := 343) dL_decides_252 rfl b1 (?_ : Ex _ _ 343 _ _ _ _ _)
    refine x_iconst dL_decides_343 rfl (by decide) (?_ : Ex _ _ 344 _ _ _ _ _)
    refine Ex.wk (ls2 := [(21, l0), (0, l1), (0, l2), (0, l3), (0, l4), (3, 0), (3, 0), (0, l7), (0, l8), (3, 0), (0, s0), (3, 0)]) ⟨Or.inr rfl, Or.inr rfl, Or.inr rfl, Or.inr rfl, Or.inr rfl, Or.inl rfl, Or.inl rfl, Or.inr rfl, Or.inr rfl, Or.inl rfl, Or.inr rfl, Or.inl rfl, trivial⟩ ?_
    exact e_L_decides_344 d h
  · refine x_if_eqN dL_decides_252 (by decide) b1 (?_ : Ex _ _ 255 _ _ _ _ _)
    refine x_iload dL_decides_255 rfl (?_ : Ex _ _ 257 _ _ _ _ _)
    refine x_aload_n dL_decides_257 rfl rfl (Or.inr (by decide)) (?_ : Ex _ _ 258 _ _ _ _ _)
    refine x_iload_n dL_decides_258 rfl rfl (?_ : Ex _ _ 259 _ _ _ _ _)
    refine x_iload_n dL_decides_259 rfl rfl (?_ : Ex _ _ 260 _ _ _ _ _)
    obtain ⟨c2, h⟩ := chk_some h
    obtain ⟨v3, m4, g5, h⟩ := cal0_some h
    refine cV2 (e_X11_state (d + 44) g5) (cont0 (by decide) (?_ : Ex _ _ 263 _ _ _ _ _)) og_X11_state rfl ml_RL_59 11 rfl rfl c2 im_X11_state se_X11_state (Nat.le_of_ble_eq_true rfl) dL_decides_260
    refine x_bipush dL_decides_263 kb_20 (by decide) (?_ : Ex _ _ 265 _ _ _ _ _)
    rcases ite_some h with ⟨b6, h⟩ | ⟨b6, h⟩
    · refine x_icmp_eq (tgt := 272) dL_decides_265 rfl b6 (?_ : Ex _ _ 272 _ _ _ _ _)
      refine x_iconst dL_decides_272 rfl (by decide) (?_ : Ex _ _ 273 _ _ _ _ _)
      refine Ex.wk (ls2 := [(21, l0), (0, l1), (0, l2), (0, l3), (0, l4), (3, 0), (3, 0), (0, l7), (0, l8), (3, 0), (0, s0), (3, 0)]) ⟨Or.inr rfl, Or.inr rfl, Or.inr rfl, Or.inr rfl, Or.inr rfl, Or.inl rfl, Or.inl rfl, Or.inr rfl, Or.inr rfl, Or.inl rfl, Or.inr rfl, Or.inl rfl, trivial⟩ ?_
      exact e_L_decides_273 d h
    · refine x_icmp_eqN dL_decides_265 (by decide) b6 (?_ : Ex _ _ 268 _ _ _ _ _)
      refine x_iconst dL_decides_268 rfl (by decide) (?_ : Ex _ _ 269 _ _ _ _ _)
      refine x_goto (tgt := 273) dL_decides_269 rfl (?_ : Ex _ _ 273 _ _ _ _ _)
      refine Ex.wk (ls2 := [(21, l0), (0, l1), (0, l2), (0, l3), (0, l4), (3, 0), (3, 0), (0, l7), (0, l8), (3, 0), (0, s0), (3, 0)]) ⟨Or.inr rfl, Or.inr rfl, Or.inr rfl, Or.inr rfl, Or.inr rfl, Or.inl rfl, Or.inl rfl, Or.inr rfl, Or.inr rfl, Or.inl rfl, Or.inr rfl, Or.inl rfl, trivial⟩ ?_
      exact e_L_decides_273 d h
theorem e_L_decides_220 (d : Nat) {l0 l1 l2 l3 l4 l7 l8 s0 : Int} {m : Mem} {v : Int} {m' : Mem} (h : L_decides_220 l0 l1 l2 l3 l4 l7 l8 s0 m = some (v, m')) : Ex (d + 48) fm_L_decides 220 [(21, l0), (0, l1), (0, l2), (0, l3), (0, l4), (3, 0), (3, 0), (0, l7), (0, l8), (3, 0), (3, 0), (3, 0)] [(0, s0)] m (.inl (0, v)) m' := by
  unfold L_decides_220 at h
  refine x_istore (ls2 := [(21, l0), (0, l1), (0, l2), (0, l3), (0, l4), (3, 0), (3, 0), (0, l7), (0, l8), (0, s0), (3, 0), (3, 0)]) dL_decides_220 (Nat.le_of_ble_eq_true rfl) rfl (?_ : Ex _ _ 222 _ _ _ _ _)
  refine x_iload dL_decides_222 rfl (?_ : Ex _ _ 224 _ _ _ _ _)
  rcases ite_some h with ⟨b1, h⟩ | ⟨b1, h⟩
  · refine x_if_le (tgt := 247) dL_decides_224 rfl b1 (?_ : Ex _ _ 247 _ _ _ _ _)
    refine x_iconst dL_decides_247 rfl (by decide) (?_ : Ex _ _ 248 _ _ _ _ _)
    exact e_L_decides_248 d h
  · refine x_if_leN dL_decides_224 (by decide) b1 (?_ : Ex _ _ 227 _ _ _ _ _)
    refine x_aload_n dL_decides_227 rfl rfl (Or.inr (by decide)) (?_ : Ex _ _ 228 _ _ _ _ _)
    refine x_iload_n dL_decides_228 rfl rfl (?_ : Ex _ _ 229 _ _ _ _ _)
    refine x_iload_n dL_decides_229 rfl rfl (?_ : Ex _ _ 230 _ _ _ _ _)
    refine x_iload dL_decides_230 rfl (?_ : Ex _ _ 232 _ _ _ _ _)
    refine x_iload dL_decides_232 rfl (?_ : Ex _ _ 234 _ _ _ _ _)
    obtain ⟨c2, h⟩ := chk_some h
    refine x_iadd dL_decides_234 c2 (?_ : Ex _ _ 235 _ _ _ _ _)
    obtain ⟨c3, h⟩ := chk_some h
    obtain ⟨v4, m5, g6, h⟩ := cal0_some h
    refine cV3 (e_X11_eventKind (d + 43) g6) (cont0 (by decide) (?_ : Ex _ _ 238 _ _ _ _ _)) og_X11_eventKind rfl ml_RL_62 11 rfl rfl c3 im_X11_eventKind se_X11_eventKind (Nat.le_of_ble_eq_true rfl) dL_decides_235
    refine x_bipush dL_decides_238 kb_16 (by decide) (?_ : Ex _ _ 240 _ _ _ _ _)
    rcases ite_some h with ⟨b7, h⟩ | ⟨b7, h⟩
    · refine x_icmp_neN dL_decides_240 (by decide) (fun hh => hh b7) (?_ : Ex _ _ 243 _ _ _ _ _)
      refine x_iconst dL_decides_243 rfl (by decide) (?_ : Ex _ _ 244 _ _ _ _ _)
      refine x_goto (tgt := 248) dL_decides_244 rfl (?_ : Ex _ _ 248 _ _ _ _ _)
      exact e_L_decides_248 d h
    · refine x_icmp_ne (tgt := 247) dL_decides_240 rfl b7 (?_ : Ex _ _ 247 _ _ _ _ _)
      refine x_iconst dL_decides_247 rfl (by decide) (?_ : Ex _ _ 248 _ _ _ _ _)
      exact e_L_decides_248 d h
theorem e_L_decides_0 (d : Nat) {l0 l1 l2 : Int} {m : Mem} {v : Int} {m' : Mem} (h : L_decides_0 l0 l1 l2 m = some (v, m')) : Ex (d + 48) fm_L_decides 0 [(21, l0), (0, l1), (0, l2), (3, 0), (3, 0), (3, 0), (3, 0), (3, 0), (3, 0), (3, 0), (3, 0), (3, 0)] [] m (.inl (0, v)) m' := by
  unfold L_decides_0 at h
  refine x_aload_n dL_decides_0 rfl rfl (Or.inr (by decide)) (?_ : Ex _ _ 1 _ _ _ _ _)
  refine x_iload_n dL_decides_1 rfl rfl (?_ : Ex _ _ 2 _ _ _ _ _)
  obtain ⟨c1, h⟩ := chk_some h
  obtain ⟨v2, m3, g4, h⟩ := cal0_some h
  refine cV1 (e_X11_runs (d + 45) g4) (cont0 (by decide) (?_ : Ex _ _ 5 _ _ _ _ _)) og_X11_runs rfl ml_RL_69 11 rfl rfl c1 im_X11_runs se_X11_runs (Nat.le_of_ble_eq_true rfl) dL_decides_2
  refine x_istore_n (ls2 := [(21, l0), (0, l1), (0, l2), (0, v2), (3, 0), (3, 0), (3, 0), (3, 0), (3, 0), (3, 0), (3, 0), (3, 0)]) dL_decides_5 rfl (Nat.le_of_ble_eq_true rfl) rfl (?_ : Ex _ _ 6 _ _ _ _ _)
  refine x_aload_n dL_decides_6 rfl rfl (Or.inr (by decide)) (?_ : Ex _ _ 7 _ _ _ _ _)
  refine x_iload_n dL_decides_7 rfl rfl (?_ : Ex _ _ 8 _ _ _ _ _)
  refine x_iload_n dL_decides_8 rfl rfl (?_ : Ex _ _ 9 _ _ _ _ _)
  obtain ⟨v5, m6, g7, h⟩ := cal0_some h
  refine cV2 (e_X11_events (d + 44) g7) (cont0 (by decide) (?_ : Ex _ _ 12 _ _ _ _ _)) og_X11_events rfl ml_RL_56 11 rfl rfl c1 im_X11_events se_X11_events (Nat.le_of_ble_eq_true rfl) dL_decides_9
  refine x_istore (ls2 := [(21, l0), (0, l1), (0, l2), (0, v2), (0, v5), (3, 0), (3, 0), (3, 0), (3, 0), (3, 0), (3, 0), (3, 0)]) dL_decides_12 (Nat.le_of_ble_eq_true rfl) rfl (?_ : Ex _ _ 14 _ _ _ _ _)
  refine x_aload_n dL_decides_14 rfl rfl (Or.inr (by decide)) (?_ : Ex _ _ 15 _ _ _ _ _)
  refine x_iload_n dL_decides_15 rfl rfl (?_ : Ex _ _ 16 _ _ _ _ _)
  obtain ⟨v8, m9, g10, h⟩ := cal0_some h
  refine cV1 (e_X11_isDue (d + 45) g10) (cont0 (by decide) (?_ : Ex _ _ 19 _ _ _ _ _)) og_X11_isDue rfl ml_RL_81 11 rfl rfl c1 im_X11_isDue se_X11_isDue (Nat.le_of_ble_eq_true rfl) dL_decides_16
  refine x_istore (ls2 := [(21, l0), (0, l1), (0, l2), (0, v2), (0, v5), (0, v8), (3, 0), (3, 0), (3, 0), (3, 0), (3, 0), (3, 0)]) dL_decides_19 (Nat.le_of_ble_eq_true rfl) rfl (?_ : Ex _ _ 21 _ _ _ _ _)
  refine x_aload_n dL_decides_21 rfl rfl (Or.inr (by decide)) (?_ : Ex _ _ 22 _ _ _ _ _)
  refine x_iload_n dL_decides_22 rfl rfl (?_ : Ex _ _ 23 _ _ _ _ _)
  refine x_iload_n dL_decides_23 rfl rfl (?_ : Ex _ _ 24 _ _ _ _ _)
  obtain ⟨v11, m12, g13, h⟩ := cal0_some h
  refine cV2 (e_X11_state (d + 44) g13) (cont0 (by decide) (?_ : Ex _ _ 27 _ _ _ _ _)) og_X11_state rfl ml_RL_59 11 rfl rfl c1 im_X11_state se_X11_state (Nat.le_of_ble_eq_true rfl) dL_decides_24
  refine x_istore (ls2 := [(21, l0), (0, l1), (0, l2), (0, v2), (0, v5), (0, v8), (0, v11), (3, 0), (3, 0), (3, 0), (3, 0), (3, 0)]) dL_decides_27 (Nat.le_of_ble_eq_true rfl) rfl (?_ : Ex _ _ 29 _ _ _ _ _)
  refine x_aload_n dL_decides_29 rfl rfl (Or.inr (by decide)) (?_ : Ex _ _ 30 _ _ _ _ _)
  refine x_iconst dL_decides_30 rfl (by decide) (?_ : Ex _ _ 31 _ _ _ _ _)
  refine x_iload_n dL_decides_31 rfl rfl (?_ : Ex _ _ 32 _ _ _ _ _)
  refine x_iload_n dL_decides_32 rfl rfl (?_ : Ex _ _ 33 _ _ _ _ _)
  refine x_iconst dL_decides_33 rfl (by decide) (?_ : Ex _ _ 34 _ _ _ _ _)
  refine x_iconst dL_decides_34 rfl (by decide) (?_ : Ex _ _ 35 _ _ _ _ _)
  obtain ⟨v14, m15, g16, h⟩ := cal_some h
  refine cW6 (e_L_on d g16) (by decide) (?_ : Ex _ _ 38 _ _ _ _ _) og_L_on (List.cons_ne_nil _ _) ml_RL_85 sm_L_on (Nat.le_of_ble_eq_true rfl) dL_decides_35
  refine x_istore (ls2 := [(21, l0), (0, l1), (0, l2), (0, v2), (0, v5), (0, v8), (0, v11), (0, v14), (3, 0), (3, 0), (3, 0), (3, 0)]) dL_decides_38 (Nat.le_of_ble_eq_true rfl) rfl (?_ : Ex _ _ 40 _ _ _ _ _)
  refine x_aload_n dL_decides_40 rfl rfl (Or.inr (by decide)) (?_ : Ex _ _ 41 _ _ _ _ _)
  refine x_iload_n dL_decides_41 rfl rfl (?_ : Ex _ _ 42 _ _ _ _ _)
  refine x_iload_n dL_decides_42 rfl rfl (?_ : Ex _ _ 43 _ _ _ _ _)
  obtain ⟨v17, m18, g19, h⟩ := cal0_some h
  refine cV2 (e_X11_events (d + 44) g19) (cont0 (by decide) (?_ : Ex _ _ 46 _ _ _ _ _)) og_X11_events rfl ml_RL_56 11 rfl rfl c1 im_X11_events se_X11_events (Nat.le_of_ble_eq_true rfl) dL_decides_43
  refine x_istore (ls2 := [(21, l0), (0, l1), (0, l2), (0, v2), (0, v5), (0, v8), (0, v11), (0, v14), (0, v17), (3, 0), (3, 0), (3, 0)]) dL_decides_46 (Nat.le_of_ble_eq_true rfl) rfl (?_ : Ex _ _ 48 _ _ _ _ _)
  refine x_iload dL_decides_48 rfl (?_ : Ex _ _ 50 _ _ _ _ _)
  refine x_ldc (x := (-90001)) kc_RL_49 dL_decides_50 (by decide +kernel) (by decide) (?_ : Ex _ _ 52 _ _ _ _ _)
  rcases ite_some h with ⟨b20, h⟩ | ⟨b20, h⟩
  · refine x_icmp_neN dL_decides_52 (by decide) (fun hh => hh b20) (?_ : Ex _ _ 55 _ _ _ _ _)
    refine x_iload dL_decides_55 rfl (?_ : Ex _ _ 57 _ _ _ _ _)
    refine x_iload dL_decides_57 rfl (?_ : Ex _ _ 59 _ _ _ _ _)
    rcases ite_some h with ⟨b38, h⟩ | ⟨b38, h⟩
    · refine x_icmp_neN dL_decides_59 (by decide) (fun hh => hh b38) (?_ : Ex _ _ 62 _ _ _ _ _)
      refine x_iconst dL_decides_62 rfl (by decide) (?_ : Ex _ _ 63 _ _ _ _ _)
      refine x_goto (tgt := 67) dL_decides_63 rfl (?_ : Ex _ _ 67 _ _ _ _ _)
      cases h
      exact x_ret dL_decides_67 (by decide : (0 : Int) ≠ 3)
    · refine x_icmp_ne (tgt := 66) dL_decides_59 rfl b38 (?_ : Ex _ _ 66 _ _ _ _ _)
      refine x_iconst dL_decides_66 rfl (by decide) (?_ : Ex _ _ 67 _ _ _ _ _)
      cases h
      exact x_ret dL_decides_67 (by decide : (0 : Int) ≠ 3)
  · refine x_icmp_ne (tgt := 68) dL_decides_52 rfl b20 (?_ : Ex _ _ 68 _ _ _ _ _)
    refine x_iload dL_decides_68 rfl (?_ : Ex _ _ 70 _ _ _ _ _)
    refine x_ldc (x := (-90003)) kc_RL_55 dL_decides_70 (by decide +kernel) (by decide) (?_ : Ex _ _ 72 _ _ _ _ _)
    rcases ite_some h with ⟨b21, h⟩ | ⟨b21, h⟩
    · refine x_icmp_eq (tgt := 88) dL_decides_72 rfl b21 (?_ : Ex _ _ 88 _ _ _ _ _)
      refine Ex.wk (ls2 := [(21, l0), (0, l1), (3, 0), (0, v2), (0, v5), (0, v8), (0, v11), (0, v14), (0, v17), (3, 0), (3, 0), (3, 0)]) ⟨Or.inr rfl, Or.inr rfl, Or.inl rfl, Or.inr rfl, Or.inr rfl, Or.inr rfl, Or.inr rfl, Or.inr rfl, Or.inr rfl, Or.inl rfl, Or.inl rfl, Or.inl rfl, trivial⟩ ?_
      exact e_L_decides_88 d h
    · refine x_icmp_eqN dL_decides_72 (by decide) b21 (?_ : Ex _ _ 75 _ _ _ _ _)
      refine x_iload dL_decides_75 rfl (?_ : Ex _ _ 77 _ _ _ _ _)
      refine x_iconst dL_decides_77 rfl (by decide) (?_ : Ex _ _ 78 _ _ _ _ _)
      rcases ite_some h with ⟨b22, h⟩ | ⟨b22, h⟩
      · refine x_icmp_eq (tgt := 88) dL_decides_78 rfl b22 (?_ : Ex _ _ 88 _ _ _ _ _)
        refine Ex.wk (ls2 := [(21, l0), (0, l1), (3, 0), (0, v2), (0, v5), (0, v8), (0, v11), (0, v14), (0, v17), (3, 0), (3, 0), (3, 0)]) ⟨Or.inr rfl, Or.inr rfl, Or.inl rfl, Or.inr rfl, Or.inr rfl, Or.inr rfl, Or.inr rfl, Or.inr rfl, Or.inr rfl, Or.inl rfl, Or.inl rfl, Or.inl rfl, trivial⟩ ?_
        exact e_L_decides_88 d h
      · refine x_icmp_eqN dL_decides_78 (by decide) b22 (?_ : Ex _ _ 81 _ _ _ _ _)
        refine x_iload dL_decides_81 rfl (?_ : Ex _ _ 83 _ _ _ _ _)
        refine x_bipush dL_decides_83 kb_n2 (by decide) (?_ : Ex _ _ 85 _ _ _ _ _)
        rcases ite_some h with ⟨b23, h⟩ | ⟨b23, h⟩
        · refine x_icmp_neN dL_decides_85 (by decide) (fun hh => hh b23) (?_ : Ex _ _ 88 _ _ _ _ _)
          refine Ex.wk (ls2 := [(21, l0), (0, l1), (3, 0), (0, v2), (0, v5), (0, v8), (0, v11), (0, v14), (0, v17), (3, 0), (3, 0), (3, 0)]) ⟨Or.inr rfl, Or.inr rfl, Or.inl rfl, Or.inr rfl, Or.inr rfl, Or.inr rfl, Or.inr rfl, Or.inr rfl, Or.inr rfl, Or.inl rfl, Or.inl rfl, Or.inl rfl, trivial⟩ ?_
          exact e_L_decides_88 d h
        · refine x_icmp_ne (tgt := 160) dL_decides_85 rfl b23 (?_ : Ex _ _ 160 _ _ _ _ _)
          refine x_iload dL_decides_160 rfl (?_ : Ex _ _ 162 _ _ _ _ _)
          rcases ite_some h with ⟨b24, h⟩ | ⟨b24, h⟩
          · refine x_if_lt (tgt := 219) dL_decides_162 rfl b24 (?_ : Ex _ _ 219 _ _ _ _ _)
            refine x_iconst dL_decides_219 rfl (by decide) (?_ : Ex _ _ 220 _ _ _ _ _)
            refine Ex.wk (ls2 := [(21, l0), (0, l1), (0, l2), (0, v2), (0, v5), (3, 0), (3, 0), (0, v14), (0, v17), (3, 0), (3, 0), (3, 0)]) ⟨Or.inr rfl, Or.inr rfl, Or.inr rfl, Or.inr rfl, Or.inr rfl, Or.inl rfl, Or.inl rfl, Or.inr rfl, Or.inr rfl, Or.inl rfl, Or.inl rfl, Or.inl rfl, trivial⟩ ?_
            exact e_L_decides_220 d h
          · refine x_if_ltN dL_decides_162 (by decide) b24 (?_ : Ex _ _ 165 _ _ _ _ _)
            refine x_iload dL_decides_165 rfl (?_ : Ex _ _ 167 _ _ _ _ _)
            rcases ite_some h with ⟨b25, h⟩ | ⟨b25, h⟩
            · refine x_if_eq (tgt := 219) dL_decides_167 rfl b25 (?_ : Ex _ _ 219 _ _ _ _ _)
              refine x_iconst dL_decides_219 rfl (by decide) (?_ : Ex _ _ 220 _ _ _ _ _)
              refine Ex.wk (ls2 := [(21, l0), (0, l1), (0, l2), (0, v2), (0, v5), (3, 0), (3, 0), (0, v14), (0, v17), (3, 0), (3, 0), (3, 0)]) ⟨Or.inr rfl, Or.inr rfl, Or.inr rfl, Or.inr rfl, Or.inr rfl, Or.inl rfl, Or.inl rfl, Or.inr rfl, Or.inr rfl, Or.inl rfl, Or.inl rfl, Or.inl rfl, trivial⟩ ?_
              exact e_L_decides_220 d h
            · refine x_if_eqN dL_decides_167 (by decide) b25 (?_ : Ex _ _ 170 _ _ _ _ _)
              refine x_iload dL_decides_170 rfl (?_ : Ex _ _ 172 _ _ _ _ _)
              refine x_iload dL_decides_172 rfl (?_ : Ex _ _ 174 _ _ _ _ _)
              refine x_iconst dL_decides_174 rfl (by decide) (?_ : Ex _ _ 175 _ _ _ _ _)
              obtain ⟨c26, h⟩ := chk_some h
              refine x_iadd dL_decides_175 c26 (?_ : Ex _ _ 176 _ _ _ _ _)
              refine x_iload dL_decides_176 rfl (?_ : Ex _ _ 178 _ _ _ _ _)
              obtain ⟨c27, h⟩ := chk_some h
              refine x_iadd dL_decides_178 c27 (?_ : Ex _ _ 179 _ _ _ _ _)
              rcases ite_some h with ⟨b28, h⟩ | ⟨b28, h⟩
              · refine x_icmp_lt (tgt := 219) dL_decides_179 rfl b28 (?_ : Ex _ _ 219 _ _ _ _ _)
                refine x_iconst dL_decides_219 rfl (by decide) (?_ : Ex _ _ 220 _ _ _ _ _)
                refine Ex.wk (ls2 := [(21, l0), (0, l1), (0, l2), (0, v2), (0, v5), (3, 0), (3, 0), (0, v14), (0, v17), (3, 0), (3, 0), (3, 0)]) ⟨Or.inr rfl, Or.inr rfl, Or.inr rfl, Or.inr rfl, Or.inr rfl, Or.inl rfl, Or.inl rfl, Or.inr rfl, Or.inr rfl, Or.inl rfl, Or.inl rfl, Or.inl rfl, trivial⟩ ?_
                exact e_L_decides_220 d h
              · refine x_icmp_ltN dL_decides_179 (by decide) b28 (?_ : Ex _ _ 182 _ _ _ _ _)
                refine x_iload dL_decides_182 rfl (?_ : Ex _ _ 184 _ _ _ _ _)
                refine x_bipush dL_decides_184 kb_80 (by decide) (?_ : Ex _ _ 186 _ _ _ _ _)
                rcases ite_some h with ⟨b29, h⟩ | ⟨b29, h⟩
                · refine x_icmp_gt (tgt := 219) dL_decides_186 rfl b29 (?_ : Ex _ _ 219 _ _ _ _ _)
                  refine x_iconst dL_decides_219 rfl (by decide) (?_ : Ex _ _ 220 _ _ _ _ _)
                  refine Ex.wk (ls2 := [(21, l0), (0, l1), (0, l2), (0, v2), (0, v5), (3, 0), (3, 0), (0, v14), (0, v17), (3, 0), (3, 0), (3, 0)]) ⟨Or.inr rfl, Or.inr rfl, Or.inr rfl, Or.inr rfl, Or.inr rfl, Or.inl rfl, Or.inl rfl, Or.inr rfl, Or.inr rfl, Or.inl rfl, Or.inl rfl, Or.inl rfl, trivial⟩ ?_
                  exact e_L_decides_220 d h
                · refine x_icmp_gtN dL_decides_186 (by decide) b29 (?_ : Ex _ _ 189 _ _ _ _ _)
                  refine x_aload_n dL_decides_189 rfl rfl (Or.inr (by decide)) (?_ : Ex _ _ 190 _ _ _ _ _)
                  refine x_iload_n dL_decides_190 rfl rfl (?_ : Ex _ _ 191 _ _ _ _ _)
                  refine x_iload_n dL_decides_191 rfl rfl (?_ : Ex _ _ 192 _ _ _ _ _)
                  refine x_iload dL_decides_192 rfl (?_ : Ex _ _ 194 _ _ _ _ _)
                  obtain ⟨v30, m31, g32, h⟩ := cal0_some h
                  refine cV3 (e_X11_eventKind (d + 43) g32) (cont0 (by decide) (?_ : Ex _ _ 197 _ _ _ _ _)) og_X11_eventKind rfl ml_RL_62 11 rfl rfl c1 im_X11_eventKind se_X11_eventKind (Nat.le_of_ble_eq_true rfl) dL_decides_194
                  refine x_bipush dL_decides_197 kb_7 (by decide) (?_ : Ex _ _ 199 _ _ _ _ _)
                  rcases ite_some h with ⟨b33, h⟩ | ⟨b33, h⟩
                  · refine x_icmp_neN dL_decides_199 (by decide) (fun hh => hh b33) (?_ : Ex _ _ 202 _ _ _ _ _)
                    refine x_aload_n dL_decides_202 rfl rfl (Or.inr (by decide)) (?_ : Ex _ _ 203 _ _ _ _ _)
                    refine x_iload_n dL_decides_203 rfl rfl (?_ : Ex _ _ 204 _ _ _ _ _)
                    refine x_iload_n dL_decides_204 rfl rfl (?_ : Ex _ _ 205 _ _ _ _ _)
                    refine x_iload dL_decides_205 rfl (?_ : Ex _ _ 207 _ _ _ _ _)
                    refine x_iconst dL_decides_207 rfl (by decide) (?_ : Ex _ _ 208 _ _ _ _ _)
                    obtain ⟨v34, m35, g36, h⟩ := cal0_some h
                    refine cV4 (e_X11_eventNumber (d + 43) g36) (cont0 (by decide) (?_ : Ex _ _ 211 _ _ _ _ _)) og_X11_eventNumber rfl ml_RL_65 11 rfl rfl c1 im_X11_eventNumber se_X11_eventNumber (Nat.le_of_ble_eq_true rfl) dL_decides_208
                    refine x_iload_n dL_decides_211 rfl rfl (?_ : Ex _ _ 212 _ _ _ _ _)
                    rcases ite_some h with ⟨b37, h⟩ | ⟨b37, h⟩
                    · refine x_icmp_neN dL_decides_212 (by decide) (fun hh => hh b37) (?_ : Ex _ _ 215 _ _ _ _ _)
                      refine x_iconst dL_decides_215 rfl (by decide) (?_ : Ex _ _ 216 _ _ _ _ _)
                      refine x_goto (tgt := 220) dL_decides_216 rfl (?_ : Ex _ _ 220 _ _ _ _ _)
                      refine Ex.wk (ls2 := [(21, l0), (0, l1), (0, l2), (0, v2), (0, v5), (3, 0), (3, 0), (0, v14), (0, v17), (3, 0), (3, 0), (3, 0)]) ⟨Or.inr rfl, Or.inr rfl, Or.inr rfl, Or.inr rfl, Or.inr rfl, Or.inl rfl, Or.inl rfl, Or.inr rfl, Or.inr rfl, Or.inl rfl, Or.inl rfl, Or.inl rfl, trivial⟩ ?_
                      exact e_L_decides_220 d h
                    · refine x_icmp_ne (tgt := 219) dL_decides_212 rfl b37 (?_ : Ex _ _ 219 _ _ _ _ _)
                      refine x_iconst dL_decides_219 rfl (by decide) (?_ : Ex _ _ 220 _ _ _ _ _)
                      refine Ex.wk (ls2 := [(21, l0), (0, l1), (0, l2), (0, v2), (0, v5), (3, 0), (3, 0), (0, v14), (0, v17), (3, 0), (3, 0), (3, 0)]) ⟨Or.inr rfl, Or.inr rfl, Or.inr rfl, Or.inr rfl, Or.inr rfl, Or.inl rfl, Or.inl rfl, Or.inr rfl, Or.inr rfl, Or.inl rfl, Or.inl rfl, Or.inl rfl, trivial⟩ ?_
                      exact e_L_decides_220 d h
                  · refine x_icmp_ne (tgt := 219) dL_decides_199 rfl b33 (?_ : Ex _ _ 219 _ _ _ _ _)
                    refine x_iconst dL_decides_219 rfl (by decide) (?_ : Ex _ _ 220 _ _ _ _ _)
                    refine Ex.wk (ls2 := [(21, l0), (0, l1), (0, l2), (0, v2), (0, v5), (3, 0), (3, 0), (0, v14), (0, v17), (3, 0), (3, 0), (3, 0)]) ⟨Or.inr rfl, Or.inr rfl, Or.inr rfl, Or.inr rfl, Or.inr rfl, Or.inl rfl, Or.inl rfl, Or.inr rfl, Or.inr rfl, Or.inl rfl, Or.inl rfl, Or.inl rfl, trivial⟩ ?_
                    exact e_L_decides_220 d h
theorem e_L_decides (d : Nat) {a0 a1 a2 : Int} {m : Mem} {v : Int} {m' : Mem} (h : L_decides a0 a1 a2 m = some (v, m')) : ExM (d + 48) fm_L_decides [(21, a0), (0, a1), (0, a2)] m (.inl (0, v)) m' := by
  obtain ⟨hb, h⟩ := boolR_some h
  exact ExM.of (by decide +kernel) (Nat.le_of_ble_eq_true rfl) (cat9 rfl) (retZ hb) (e_L_decides_0 d h)
theorem dL_areWorkers_0 : decode cL_areWorkers 0 = .ok (.iconst 1, 1) := by decide +kernel
theorem dL_areWorkers_1 : decode cL_areWorkers 1 = .ok (.istore_n 1, 1) := by decide +kernel
theorem dL_areWorkers_2 : decode cL_areWorkers 2 = .ok (.iconst 0, 1) := by decide +kernel
theorem dL_areWorkers_3 : decode cL_areWorkers 3 = .ok (.istore_n 2, 1) := by decide +kernel
theorem dL_areWorkers_4 : decode cL_areWorkers 4 = .ok (.iload_n 2, 1) := by decide +kernel
theorem dL_areWorkers_5 : decode cL_areWorkers 5 = .ok (.iconst 4, 1) := by decide +kernel
theorem dL_areWorkers_6 : decode cL_areWorkers 6 = .ok (.if_icmp .ge 119, 3) := by decide +kernel
theorem dL_areWorkers_9 : decode cL_areWorkers 9 = .ok (.aload_n 0, 1) := by decide +kernel
theorem dL_areWorkers_10 : decode cL_areWorkers 10 = .ok (.iload_n 2, 1) := by decide +kernel
theorem dL_areWorkers_11 : decode cL_areWorkers 11 = .ok (.invokevirtual 88, 3) := by decide +kernel
theorem dL_areWorkers_14 : decode cL_areWorkers 14 = .ok (.istore_n 3, 1) := by decide +kernel
theorem dL_areWorkers_15 : decode cL_areWorkers 15 = .ok (.iconst 0, 1) := by decide +kernel
theorem dL_areWorkers_16 : decode cL_areWorkers 16 = .ok (.istore 4, 2) := by decide +kernel
theorem dL_areWorkers_18 : decode cL_areWorkers 18 = .ok (.iload 4, 2) := by decide +kernel
theorem dL_areWorkers_20 : decode cL_areWorkers 20 = .ok (.iload_n 2, 1) := by decide +kernel
theorem dL_areWorkers_21 : decode cL_areWorkers 21 = .ok (.if_icmp .ge 34, 3) := by decide +kernel
theorem dL_areWorkers_24 : decode cL_areWorkers 24 = .ok (.iload_n 1, 1) := by decide +kernel
theorem dL_areWorkers_25 : decode cL_areWorkers 25 = .ok (.ifCond .eq 30, 3) := by decide +kernel
theorem dL_areWorkers_28 : decode cL_areWorkers 28 = .ok (.iload_n 3, 1) := by decide +kernel
theorem dL_areWorkers_29 : decode cL_areWorkers 29 = .ok (.iconst (-1), 1) := by decide +kernel
theorem dL_areWorkers_30 : decode cL_areWorkers 30 = .ok (.if_icmp .eq 13, 3) := by decide +kernel
theorem dL_areWorkers_33 : decode cL_areWorkers 33 = .ok (.aload_n 0, 1) := by decide +kernel
theorem dL_areWorkers_34 : decode cL_areWorkers 34 = .ok (.iload 4, 2) := by decide +kernel
theorem dL_areWorkers_36 : decode cL_areWorkers 36 = .ok (.invokevirtual 88, 3) := by decide +kernel
theorem dL_areWorkers_39 : decode cL_areWorkers 39 = .ok (.iload_n 3, 1) := by decide +kernel
theorem dL_areWorkers_40 : decode cL_areWorkers 40 = .ok (.if_icmp .eq 7, 3) := by decide +kernel
theorem dL_areWorkers_43 : decode cL_areWorkers 43 = .ok (.iconst 1, 1) := by decide +kernel
theorem dL_areWorkers_44 : decode cL_areWorkers 44 = .ok (.goto 4, 3) := by decide +kernel
theorem dL_areWorkers_47 : decode cL_areWorkers 47 = .ok (.iconst 0, 1) := by decide +kernel
theorem dL_areWorkers_48 : decode cL_areWorkers 48 = .ok (.istore_n 1, 1) := by decide +kernel
theorem dL_areWorkers_49 : decode cL_areWorkers 49 = .ok (.iinc 4 1, 3) := by decide +kernel
theorem dL_areWorkers_52 : decode cL_areWorkers 52 = .ok (.goto (-34), 3) := by decide +kernel
theorem dL_areWorkers_55 : decode cL_areWorkers 55 = .ok (.iload_n 3, 1) := by decide +kernel
theorem dL_areWorkers_56 : decode cL_areWorkers 56 = .ok (.sipush 1000, 3) := by decide +kernel
theorem dL_areWorkers_59 : decode cL_areWorkers 59 = .ok (.idiv, 1) := by decide +kernel
theorem dL_areWorkers_60 : decode cL_areWorkers 60 = .ok (.istore 4, 2) := by decide +kernel
theorem dL_areWorkers_62 : decode cL_areWorkers 62 = .ok (.iload_n 1, 1) := by decide +kernel
theorem dL_areWorkers_63 : decode cL_areWorkers 63 = .ok (.ifCond .eq 54, 3) := by decide +kernel
theorem dL_areWorkers_66 : decode cL_areWorkers 66 = .ok (.iload_n 3, 1) := by decide +kernel
theorem dL_areWorkers_67 : decode cL_areWorkers 67 = .ok (.iconst (-1), 1) := by decide +kernel
theorem dL_areWorkers_68 : decode cL_areWorkers 68 = .ok (.if_icmp .eq 45, 3) := by decide +kernel
theorem dL_areWorkers_71 : decode cL_areWorkers 71 = .ok (.iload 4, 2) := by decide +kernel
theorem dL_areWorkers_73 : decode cL_areWorkers 73 = .ok (.aload_n 0, 1) := by decide +kernel
theorem dL_areWorkers_74 : decode cL_areWorkers 74 = .ok (.invokevirtual 91, 3) := by decide +kernel
theorem dL_areWorkers_77 : decode cL_areWorkers 77 = .ok (.if_icmp .ge 40, 3) := by decide +kernel
theorem dL_areWorkers_80 : decode cL_areWorkers 80 = .ok (.aload_n 0, 1) := by decide +kernel
theorem dL_areWorkers_81 : decode cL_areWorkers 81 = .ok (.iload 4, 2) := by decide +kernel
theorem dL_areWorkers_83 : decode cL_areWorkers 83 = .ok (.aload_n 0, 1) := by decide +kernel
theorem dL_areWorkers_84 : decode cL_areWorkers 84 = .ok (.iload 4, 2) := by decide +kernel
theorem dL_areWorkers_86 : decode cL_areWorkers 86 = .ok (.invokevirtual 69, 3) := by decide +kernel
theorem dL_areWorkers_89 : decode cL_areWorkers 89 = .ok (.invokevirtual 59, 3) := by decide +kernel
theorem dL_areWorkers_92 : decode cL_areWorkers 92 = .ok (.bipush 20, 2) := by decide +kernel
theorem dL_areWorkers_94 : decode cL_areWorkers 94 = .ok (.if_icmp .ne 23, 3) := by decide +kernel
theorem dL_areWorkers_97 : decode cL_areWorkers 97 = .ok (.iload_n 3, 1) := by decide +kernel
theorem dL_areWorkers_98 : decode cL_areWorkers 98 = .ok (.bipush 100, 2) := by decide +kernel
theorem dL_areWorkers_100 : decode cL_areWorkers 100 = .ok (.idiv, 1) := by decide +kernel
theorem dL_areWorkers_101 : decode cL_areWorkers 101 = .ok (.bipush 10, 2) := by decide +kernel
theorem dL_areWorkers_103 : decode cL_areWorkers 103 = .ok (.irem, 1) := by decide +kernel
theorem dL_areWorkers_104 : decode cL_areWorkers 104 = .ok (.aload_n 0, 1) := by decide +kernel
theorem dL_areWorkers_105 : decode cL_areWorkers 105 = .ok (.iload 4, 2) := by decide +kernel
theorem dL_areWorkers_107 : decode cL_areWorkers 107 = .ok (.invokevirtual 69, 3) := by decide +kernel
theorem dL_areWorkers_110 : decode cL_areWorkers 110 = .ok (.if_icmp .ne 7, 3) := by decide +kernel
theorem dL_areWorkers_113 : decode cL_areWorkers 113 = .ok (.iconst 1, 1) := by decide +kernel
theorem dL_areWorkers_114 : decode cL_areWorkers 114 = .ok (.goto 4, 3) := by decide +kernel
theorem dL_areWorkers_117 : decode cL_areWorkers 117 = .ok (.iconst 0, 1) := by decide +kernel
theorem dL_areWorkers_118 : decode cL_areWorkers 118 = .ok (.istore_n 1, 1) := by decide +kernel
theorem dL_areWorkers_119 : decode cL_areWorkers 119 = .ok (.iinc 2 1, 3) := by decide +kernel
theorem dL_areWorkers_122 : decode cL_areWorkers 122 = .ok (.goto (-118), 3) := by decide +kernel
theorem dL_areWorkers_125 : decode cL_areWorkers 125 = .ok (.iload_n 1, 1) := by decide +kernel
theorem dL_areWorkers_126 : decode cL_areWorkers 126 = .ok (.ifCond .eq 23, 3) := by decide +kernel
theorem dL_areWorkers_129 : decode cL_areWorkers 129 = .ok (.aload_n 0, 1) := by decide +kernel
theorem dL_areWorkers_130 : decode cL_areWorkers 130 = .ok (.iconst 0, 1) := by decide +kernel
theorem dL_areWorkers_131 : decode cL_areWorkers 131 = .ok (.invokevirtual 95, 3) := by decide +kernel
theorem dL_areWorkers_134 : decode cL_areWorkers 134 = .ok (.ifCond .lt 15, 3) := by decide +kernel
theorem dL_areWorkers_137 : decode cL_areWorkers 137 = .ok (.aload_n 0, 1) := by decide +kernel
theorem dL_areWorkers_138 : decode cL_areWorkers 138 = .ok (.iconst 1, 1) := by decide +kernel
theorem dL_areWorkers_139 : decode cL_areWorkers 139 = .ok (.invokevirtual 95, 3) := by decide +kernel
theorem dL_areWorkers_142 : decode cL_areWorkers 142 = .ok (.ifCond .lt 7, 3) := by decide +kernel
theorem dL_areWorkers_145 : decode cL_areWorkers 145 = .ok (.iconst 1, 1) := by decide +kernel
theorem dL_areWorkers_146 : decode cL_areWorkers 146 = .ok (.goto 4, 3) := by decide +kernel
theorem dL_areWorkers_149 : decode cL_areWorkers 149 = .ok (.iconst 0, 1) := by decide +kernel
theorem dL_areWorkers_150 : decode cL_areWorkers 150 = .ok (.ireturn, 1) := by decide +kernel
theorem e_L_areWorkers_125 (d : Nat) {l0 l1 : Int} {m : Mem} {v : Int} {m' : Mem} (h : L_areWorkers_125 l0 l1 m = some (v, m')) : Ex (d + 4) fm_L_areWorkers 125 [(21, l0), (0, l1), (3, 0), (3, 0), (3, 0)] [] m (.inl (0, v)) m' := by
  unfold L_areWorkers_125 at h
  refine x_iload_n dL_areWorkers_125 rfl rfl (?_ : Ex _ _ 126 _ _ _ _ _)
  rcases ite_some h with ⟨b1, h⟩ | ⟨b1, h⟩
  · refine x_if_eq (tgt := 149) dL_areWorkers_126 rfl b1 (?_ : Ex _ _ 149 _ _ _ _ _)
    refine x_iconst dL_areWorkers_149 rfl (by decide) (?_ : Ex _ _ 150 _ _ _ _ _)
    cases h
    exact x_ret dL_areWorkers_150 (by decide : (0 : Int) ≠ 3)
  · refine x_if_eqN dL_areWorkers_126 (by decide) b1 (?_ : Ex _ _ 129 _ _ _ _ _)
    refine x_aload_n dL_areWorkers_129 rfl rfl (Or.inr (by decide)) (?_ : Ex _ _ 130 _ _ _ _ _)
    refine x_iconst dL_areWorkers_130 rfl (by decide) (?_ : Ex _ _ 131 _ _ _ _ _)
    obtain ⟨c2, h⟩ := chk_some h
    obtain ⟨v3, m4, g5, h⟩ := cal0_some h
    refine cV1 (e_X11_ready (d + 1) g5) (cont0 (by decide) (?_ : Ex _ _ 134 _ _ _ _ _)) og_X11_ready rfl ml_RL_95 11 rfl rfl c2 im_X11_ready se_X11_ready (Nat.le_of_ble_eq_true rfl) dL_areWorkers_131
    rcases ite_some h with ⟨b6, h⟩ | ⟨b6, h⟩
    · refine x_if_lt (tgt := 149) dL_areWorkers_134 rfl b6 (?_ : Ex _ _ 149 _ _ _ _ _)
      refine x_iconst dL_areWorkers_149 rfl (by decide) (?_ : Ex _ _ 150 _ _ _ _ _)
      cases h
      exact x_ret dL_areWorkers_150 (by decide : (0 : Int) ≠ 3)
    · refine x_if_ltN dL_areWorkers_134 (by decide) b6 (?_ : Ex _ _ 137 _ _ _ _ _)
      refine x_aload_n dL_areWorkers_137 rfl rfl (Or.inr (by decide)) (?_ : Ex _ _ 138 _ _ _ _ _)
      refine x_iconst dL_areWorkers_138 rfl (by decide) (?_ : Ex _ _ 139 _ _ _ _ _)
      obtain ⟨v7, m8, g9, h⟩ := cal0_some h
      refine cV1 (e_X11_ready (d + 1) g9) (cont0 (by decide) (?_ : Ex _ _ 142 _ _ _ _ _)) og_X11_ready rfl ml_RL_95 11 rfl rfl c2 im_X11_ready se_X11_ready (Nat.le_of_ble_eq_true rfl) dL_areWorkers_139
      rcases ite_some h with ⟨b10, h⟩ | ⟨b10, h⟩
      · refine x_if_lt (tgt := 149) dL_areWorkers_142 rfl b10 (?_ : Ex _ _ 149 _ _ _ _ _)
        refine x_iconst dL_areWorkers_149 rfl (by decide) (?_ : Ex _ _ 150 _ _ _ _ _)
        cases h
        exact x_ret dL_areWorkers_150 (by decide : (0 : Int) ≠ 3)
      · refine x_if_ltN dL_areWorkers_142 (by decide) b10 (?_ : Ex _ _ 145 _ _ _ _ _)
        refine x_iconst dL_areWorkers_145 rfl (by decide) (?_ : Ex _ _ 146 _ _ _ _ _)
        refine x_goto (tgt := 150) dL_areWorkers_146 rfl (?_ : Ex _ _ 150 _ _ _ _ _)
        cases h
        exact x_ret dL_areWorkers_150 (by decide : (0 : Int) ≠ 3)
theorem e_L_areWorkers_55 (d : Nat) {k4 : Int → Int → Int → Mem → Option R2} (hk4 : ∀ {l0 l1 l2 : Int} {m : Mem} {v : Int} {m' : Mem}, k4 l0 l1 l2 m = some (v, m') → Ex (d + 4) fm_L_areWorkers 4 [(21, l0), (0, l1), (0, l2), (3, 0), (3, 0)] [] m (.inl (0, v)) m') {l0 l1 l2 l3 : Int} {m : Mem} {v : Int} {m' : Mem} (h : L_areWorkers_55 k4 l0 l1 l2 l3 m = some (v, m')) : Ex (d + 4) fm_L_areWorkers 55 [(21, l0), (0, l1), (0, l2), (0, l3), (3, 0)] [] m (.inl (0, v)) m' := by
  unfold L_areWorkers_55 at h
  refine x_iload_n dL_areWorkers_55 rfl rfl (?_ : Ex _ _ 56 _ _ _ _ _)
  refine x_sipush dL_areWorkers_56 ks_1000 (by decide) (?_ : Ex _ _ 59 _ _ _ _ _)
  obtain ⟨c1, h⟩ := chk_some h
  refine x_idivN dL_areWorkers_59 c1 (by decide) (?_ : Ex _ _ 60 _ _ _ _ _)
  refine x_istore (ls2 := [(21, l0), (0, l1), (0, l2), (0, l3), (0, (if l3 < 0 then 0 else l3 / 1000))]) dL_areWorkers_60 (Nat.le_of_ble_eq_true rfl) rfl (?_ : Ex _ _ 62 _ _ _ _ _)
  refine x_iload_n dL_areWorkers_62 rfl rfl (?_ : Ex _ _ 63 _ _ _ _ _)
  rcases ite_some h with ⟨b2, h⟩ | ⟨b2, h⟩
  · refine x_if_eq (tgt := 117) dL_areWorkers_63 rfl b2 (?_ : Ex _ _ 117 _ _ _ _ _)
    refine x_iconst dL_areWorkers_117 rfl (by decide) (?_ : Ex _ _ 118 _ _ _ _ _)
    refine x_istore_n (ls2 := [(21, l0), (0, 0), (0, l2), (0, l3), (0, (if l3 < 0 then 0 else l3 / 1000))]) dL_areWorkers_118 rfl (Nat.le_of_ble_eq_true rfl) rfl (?_ : Ex _ _ 119 _ _ _ _ _)
    obtain ⟨c3, h⟩ := chk_some h
    refine x_iinc (ls2 := [(21, l0), (0, 0), (0, (l2 + 1)), (0, l3), (0, (if l3 < 0 then 0 else l3 / 1000))]) dL_areWorkers_119 rfl c3 rfl (?_ : Ex _ _ 122 _ _ _ _ _)
    refine x_goto (tgt := 4) dL_areWorkers_122 rfl (?_ : Ex _ _ 4 _ _ _ _ _)
    refine Ex.wk (ls2 := [(21, l0), (0, 0), (0, (l2 + 1)), (3, 0), (3, 0)]) ⟨Or.inr rfl, Or.inr rfl, Or.inr rfl, Or.inl rfl, Or.inl rfl, trivial⟩ ?_
    exact hk4 h
  · refine x_if_eqN dL_areWorkers_63 (by decide) b2 (?_ : Ex _ _ 66 _ _ _ _ _)
    refine x_iload_n dL_areWorkers_66 rfl rfl (?_ : Ex _ _ 67 _ _ _ _ _)
    refine x_iconst dL_areWorkers_67 rfl (by decide) (?_ : Ex _ _ 68 _ _ _ _ _)
    rcases ite_some h with ⟨b4, h⟩ | ⟨b4, h⟩
    · refine x_icmp_eq (tgt := 113) dL_areWorkers_68 rfl b4 (?_ : Ex _ _ 113 _ _ _ _ _)
      refine x_iconst dL_areWorkers_113 rfl (by decide) (?_ : Ex _ _ 114 _ _ _ _ _)
      refine x_goto (tgt := 118) dL_areWorkers_114 rfl (?_ : Ex _ _ 118 _ _ _ _ _)
      refine x_istore_n (ls2 := [(21, l0), (0, 1), (0, l2), (0, l3), (0, (if l3 < 0 then 0 else l3 / 1000))]) dL_areWorkers_118 rfl (Nat.le_of_ble_eq_true rfl) rfl (?_ : Ex _ _ 119 _ _ _ _ _)
      obtain ⟨c5, h⟩ := chk_some h
      refine x_iinc (ls2 := [(21, l0), (0, 1), (0, (l2 + 1)), (0, l3), (0, (if l3 < 0 then 0 else l3 / 1000))]) dL_areWorkers_119 rfl c5 rfl (?_ : Ex _ _ 122 _ _ _ _ _)
      refine x_goto (tgt := 4) dL_areWorkers_122 rfl (?_ : Ex _ _ 4 _ _ _ _ _)
      refine Ex.wk (ls2 := [(21, l0), (0, 1), (0, (l2 + 1)), (3, 0), (3, 0)]) ⟨Or.inr rfl, Or.inr rfl, Or.inr rfl, Or.inl rfl, Or.inl rfl, trivial⟩ ?_
      exact hk4 h
    · refine x_icmp_eqN dL_areWorkers_68 (by decide) b4 (?_ : Ex _ _ 71 _ _ _ _ _)
      refine x_iload dL_areWorkers_71 rfl (?_ : Ex _ _ 73 _ _ _ _ _)
      refine x_aload_n dL_areWorkers_73 rfl rfl (Or.inr (by decide)) (?_ : Ex _ _ 74 _ _ _ _ _)
      obtain ⟨c6, h⟩ := chk_some h
      obtain ⟨v7, m8, g9, h⟩ := cal_some h
      refine cV0 (e_X11_workflows (d + 3) g9) (contN (by decide) (?_ : Ex _ _ 77 _ _ _ _ _)) og_X11_workflows rfl ml_RL_91 11 rfl rfl c6 im_X11_workflows se_X11_workflows (Nat.le_of_ble_eq_true rfl) dL_areWorkers_74
      rcases ite_some h with ⟨b10, h⟩ | ⟨b10, h⟩
      · refine x_icmp_ge (tgt := 117) dL_areWorkers_77 rfl b10 (?_ : Ex _ _ 117 _ _ _ _ _)
        refine x_iconst dL_areWorkers_117 rfl (by decide) (?_ : Ex _ _ 118 _ _ _ _ _)
        refine x_istore_n (ls2 := [(21, l0), (0, 0), (0, l2), (0, l3), (0, (if l3 < 0 then 0 else l3 / 1000))]) dL_areWorkers_118 rfl (Nat.le_of_ble_eq_true rfl) rfl (?_ : Ex _ _ 119 _ _ _ _ _)
        obtain ⟨c11, h⟩ := chk_some h
        refine x_iinc (ls2 := [(21, l0), (0, 0), (0, (l2 + 1)), (0, l3), (0, (if l3 < 0 then 0 else l3 / 1000))]) dL_areWorkers_119 rfl c11 rfl (?_ : Ex _ _ 122 _ _ _ _ _)
        refine x_goto (tgt := 4) dL_areWorkers_122 rfl (?_ : Ex _ _ 4 _ _ _ _ _)
        refine Ex.wk (ls2 := [(21, l0), (0, 0), (0, (l2 + 1)), (3, 0), (3, 0)]) ⟨Or.inr rfl, Or.inr rfl, Or.inr rfl, Or.inl rfl, Or.inl rfl, trivial⟩ ?_
        exact hk4 h
      · refine x_icmp_geN dL_areWorkers_77 (by decide) b10 (?_ : Ex _ _ 80 _ _ _ _ _)
        refine x_aload_n dL_areWorkers_80 rfl rfl (Or.inr (by decide)) (?_ : Ex _ _ 81 _ _ _ _ _)
        refine x_iload dL_areWorkers_81 rfl (?_ : Ex _ _ 83 _ _ _ _ _)
        refine x_aload_n dL_areWorkers_83 rfl rfl (Or.inr (by decide)) (?_ : Ex _ _ 84 _ _ _ _ _)
        refine x_iload dL_areWorkers_84 rfl (?_ : Ex _ _ 86 _ _ _ _ _)
        obtain ⟨v12, m13, g14, h⟩ := cal0_some h
        refine cV1 (e_X11_runs (d + 1) g14) (cont0 (by decide) (?_ : Ex _ _ 89 _ _ _ _ _)) og_X11_runs rfl ml_RL_69 11 rfl rfl c6 im_X11_runs se_X11_runs (Nat.le_of_ble_eq_true rfl) dL_areWorkers_86
        obtain ⟨v15, m16, g17, h⟩ := cal0_some h
        refine cV2 (e_X11_state d g17) (cont0 (by decide) (?_ : Ex _ _ 92 _ _ _ _ _)) og_X11_state rfl ml_RL_59 11 rfl rfl c6 im_X11_state se_X11_state (Nat.le_of_ble_eq_true rfl) dL_areWorkers_89
        refine x_bipush dL_areWorkers_92 kb_20 (by decide) (?_ : Ex _ _ 94 _ _ _ _ _)
        rcases ite_some h with ⟨b18, h⟩ | ⟨b18, h⟩
        · refine x_icmp_neN dL_areWorkers_94 (by decide) (fun hh => hh b18) (?_ : Ex _ _ 97 _ _ _ _ _)
          refine x_iload_n dL_areWorkers_97 rfl rfl (?_ : Ex _ _ 98 _ _ _ _ _)
          refine x_bipush dL_areWorkers_98 kb_100 (by decide) (?_ : Ex _ _ 100 _ _ _ _ _)
          obtain ⟨c20, h⟩ := chk_some h
          refine x_idiv dL_areWorkers_100 c20 (by decide) (?_ : Ex _ _ 101 _ _ _ _ _)
          refine x_bipush dL_areWorkers_101 kb_10 (by decide) (?_ : Ex _ _ 103 _ _ _ _ _)
          obtain ⟨c21, h⟩ := chk_some h
          refine x_irem dL_areWorkers_103 c21 (by decide) (?_ : Ex _ _ 104 _ _ _ _ _)
          refine x_aload_n dL_areWorkers_104 rfl rfl (Or.inr (by decide)) (?_ : Ex _ _ 105 _ _ _ _ _)
          refine x_iload dL_areWorkers_105 rfl (?_ : Ex _ _ 107 _ _ _ _ _)
          obtain ⟨v22, m23, g24, h⟩ := cal0_some h
          refine cV1 (e_X11_runs (d + 1) g24) (cont0 (by decide) (?_ : Ex _ _ 110 _ _ _ _ _)) og_X11_runs rfl ml_RL_69 11 rfl rfl c6 im_X11_runs se_X11_runs (Nat.le_of_ble_eq_true rfl) dL_areWorkers_107
          rcases ite_some h with ⟨b25, h⟩ | ⟨b25, h⟩
          · refine x_icmp_neN dL_areWorkers_110 (by decide) (fun hh => hh b25) (?_ : Ex _ _ 113 _ _ _ _ _)
            refine x_iconst dL_areWorkers_113 rfl (by decide) (?_ : Ex _ _ 114 _ _ _ _ _)
            refine x_goto (tgt := 118) dL_areWorkers_114 rfl (?_ : Ex _ _ 118 _ _ _ _ _)
            refine x_istore_n (ls2 := [(21, l0), (0, 1), (0, l2), (0, l3), (0, (if l3 < 0 then 0 else l3 / 1000))]) dL_areWorkers_118 rfl (Nat.le_of_ble_eq_true rfl) rfl (?_ : Ex _ _ 119 _ _ _ _ _)
            obtain ⟨c27, h⟩ := chk_some h
            refine x_iinc (ls2 := [(21, l0), (0, 1), (0, (l2 + 1)), (0, l3), (0, (if l3 < 0 then 0 else l3 / 1000))]) dL_areWorkers_119 rfl c27 rfl (?_ : Ex _ _ 122 _ _ _ _ _)
            refine x_goto (tgt := 4) dL_areWorkers_122 rfl (?_ : Ex _ _ 4 _ _ _ _ _)
            refine Ex.wk (ls2 := [(21, l0), (0, 1), (0, (l2 + 1)), (3, 0), (3, 0)]) ⟨Or.inr rfl, Or.inr rfl, Or.inr rfl, Or.inl rfl, Or.inl rfl, trivial⟩ ?_
            exact hk4 h
          · refine x_icmp_ne (tgt := 117) dL_areWorkers_110 rfl b25 (?_ : Ex _ _ 117 _ _ _ _ _)
            refine x_iconst dL_areWorkers_117 rfl (by decide) (?_ : Ex _ _ 118 _ _ _ _ _)
            refine x_istore_n (ls2 := [(21, l0), (0, 0), (0, l2), (0, l3), (0, (if l3 < 0 then 0 else l3 / 1000))]) dL_areWorkers_118 rfl (Nat.le_of_ble_eq_true rfl) rfl (?_ : Ex _ _ 119 _ _ _ _ _)
            obtain ⟨c26, h⟩ := chk_some h
            refine x_iinc (ls2 := [(21, l0), (0, 0), (0, (l2 + 1)), (0, l3), (0, (if l3 < 0 then 0 else l3 / 1000))]) dL_areWorkers_119 rfl c26 rfl (?_ : Ex _ _ 122 _ _ _ _ _)
            refine x_goto (tgt := 4) dL_areWorkers_122 rfl (?_ : Ex _ _ 4 _ _ _ _ _)
            refine Ex.wk (ls2 := [(21, l0), (0, 0), (0, (l2 + 1)), (3, 0), (3, 0)]) ⟨Or.inr rfl, Or.inr rfl, Or.inr rfl, Or.inl rfl, Or.inl rfl, trivial⟩ ?_
            exact hk4 h
        · refine x_icmp_ne (tgt := 117) dL_areWorkers_94 rfl b18 (?_ : Ex _ _ 117 _ _ _ _ _)
          refine x_iconst dL_areWorkers_117 rfl (by decide) (?_ : Ex _ _ 118 _ _ _ _ _)
          refine x_istore_n (ls2 := [(21, l0), (0, 0), (0, l2), (0, l3), (0, (if l3 < 0 then 0 else l3 / 1000))]) dL_areWorkers_118 rfl (Nat.le_of_ble_eq_true rfl) rfl (?_ : Ex _ _ 119 _ _ _ _ _)
          obtain ⟨c19, h⟩ := chk_some h
          refine x_iinc (ls2 := [(21, l0), (0, 0), (0, (l2 + 1)), (0, l3), (0, (if l3 < 0 then 0 else l3 / 1000))]) dL_areWorkers_119 rfl c19 rfl (?_ : Ex _ _ 122 _ _ _ _ _)
          refine x_goto (tgt := 4) dL_areWorkers_122 rfl (?_ : Ex _ _ 4 _ _ _ _ _)
          refine Ex.wk (ls2 := [(21, l0), (0, 0), (0, (l2 + 1)), (3, 0), (3, 0)]) ⟨Or.inr rfl, Or.inr rfl, Or.inr rfl, Or.inl rfl, Or.inl rfl, trivial⟩ ?_
          exact hk4 h
theorem e_L_areWorkers_18 (d : Nat) {k55 : Int → Int → Int → Int → Mem → Option R2} (hk55 : ∀ {l0 l1 l2 l3 : Int} {m : Mem} {v : Int} {m' : Mem}, k55 l0 l1 l2 l3 m = some (v, m') → Ex (d + 4) fm_L_areWorkers 55 [(21, l0), (0, l1), (0, l2), (0, l3), (3, 0)] [] m (.inl (0, v)) m') : ∀ (n : Nat) {l0 l1 l2 l3 l4 : Int} {m : Mem} {v : Int} {m' : Mem}, L_areWorkers_18 k55 n l0 l1 l2 l3 l4 m = some (v, m') → Ex (d + 4) fm_L_areWorkers 18 [(21, l0), (0, l1), (0, l2), (0, l3), (0, l4)] [] m (.inl (0, v)) m' := by
  intro n
  induction n with
  | zero =>
    intro l0 l1 l2 l3 l4 m v m' h
    have h : (none : Option R2) = some _ := h
    cases h
  | succ n ih =>
    intro l0 l1 l2 l3 l4 m v m' h
    rw [L_areWorkers_18] at h
    refine x_iload dL_areWorkers_18 rfl (?_ : Ex _ _ 20 _ _ _ _ _)
    refine x_iload_n dL_areWorkers_20 rfl rfl (?_ : Ex _ _ 21 _ _ _ _ _)
    rcases ite_some h with ⟨b1, h⟩ | ⟨b1, h⟩
    · refine x_icmp_ge (tgt := 55) dL_areWorkers_21 rfl b1 (?_ : Ex _ _ 55 _ _ _ _ _)
      refine Ex.wk (ls2 := [(21, l0), (0, l1), (0, l2), (0, l3), (3, 0)]) ⟨Or.inr rfl, Or.inr rfl, Or.inr rfl, Or.inr rfl, Or.inl rfl, trivial⟩ ?_
      exact hk55 h
    · refine x_icmp_geN dL_areWorkers_21 (by decide) b1 (?_ : Ex _ _ 24 _ _ _ _ _)
      refine x_iload_n dL_areWorkers_24 rfl rfl (?_ : Ex _ _ 25 _ _ _ _ _)
      rcases ite_some h with ⟨b2, h⟩ | ⟨b2, h⟩
      · refine x_if_eq (tgt := 55) dL_areWorkers_25 rfl b2 (?_ : Ex _ _ 55 _ _ _ _ _)
        refine Ex.wk (ls2 := [(21, l0), (0, l1), (0, l2), (0, l3), (3, 0)]) ⟨Or.inr rfl, Or.inr rfl, Or.inr rfl, Or.inr rfl, Or.inl rfl, trivial⟩ ?_
        exact hk55 h
      · refine x_if_eqN dL_areWorkers_25 (by decide) b2 (?_ : Ex _ _ 28 _ _ _ _ _)
        refine x_iload_n dL_areWorkers_28 rfl rfl (?_ : Ex _ _ 29 _ _ _ _ _)
        refine x_iconst dL_areWorkers_29 rfl (by decide) (?_ : Ex _ _ 30 _ _ _ _ _)
        rcases ite_some h with ⟨b3, h⟩ | ⟨b3, h⟩
        · refine x_icmp_eq (tgt := 43) dL_areWorkers_30 rfl b3 (?_ : Ex _ _ 43 _ _ _ _ _)
          refine x_iconst dL_areWorkers_43 rfl (by decide) (?_ : Ex _ _ 44 _ _ _ _ _)
          refine x_goto (tgt := 48) dL_areWorkers_44 rfl (?_ : Ex _ _ 48 _ _ _ _ _)
          refine x_istore_n (ls2 := [(21, l0), (0, 1), (0, l2), (0, l3), (0, l4)]) dL_areWorkers_48 rfl (Nat.le_of_ble_eq_true rfl) rfl (?_ : Ex _ _ 49 _ _ _ _ _)
          obtain ⟨c4, h⟩ := chk_some h
          refine x_iinc (ls2 := [(21, l0), (0, 1), (0, l2), (0, l3), (0, (l4 + 1))]) dL_areWorkers_49 rfl c4 rfl (?_ : Ex _ _ 52 _ _ _ _ _)
          refine x_goto (tgt := 18) dL_areWorkers_52 rfl (?_ : Ex _ _ 18 _ _ _ _ _)
          exact ih h
        · refine x_icmp_eqN dL_areWorkers_30 (by decide) b3 (?_ : Ex _ _ 33 _ _ _ _ _)
          refine x_aload_n dL_areWorkers_33 rfl rfl (Or.inr (by decide)) (?_ : Ex _ _ 34 _ _ _ _ _)
          refine x_iload dL_areWorkers_34 rfl (?_ : Ex _ _ 36 _ _ _ _ _)
          obtain ⟨c5, h⟩ := chk_some h
          obtain ⟨v6, m7, g8, h⟩ := cal0_some h
          refine cV1 (e_X11_has (d + 1) g8) (cont0 (by decide) (?_ : Ex _ _ 39 _ _ _ _ _)) og_X11_has rfl ml_RL_88 11 rfl rfl c5 im_X11_has se_X11_has (Nat.le_of_ble_eq_true rfl) dL_areWorkers_36
          refine x_iload_n dL_areWorkers_39 rfl rfl (?_ : Ex _ _ 40 _ _ _ _ _)
          rcases ite_some h with ⟨b9, h⟩ | ⟨b9, h⟩
          · refine x_icmp_eq (tgt := 47) dL_areWorkers_40 rfl b9 (?_ : Ex _ _ 47 _ _ _ _ _)
            refine x_iconst dL_areWorkers_47 rfl (by decide) (?_ : Ex _ _ 48 _ _ _ _ _)
            refine x_istore_n (ls2 := [(21, l0), (0, 0), (0, l2), (0, l3), (0, l4)]) dL_areWorkers_48 rfl (Nat.le_of_ble_eq_true rfl) rfl (?_ : Ex _ _ 49 _ _ _ _ _)
            obtain ⟨c10, h⟩ := chk_some h
            refine x_iinc (ls2 := [(21, l0), (0, 0), (0, l2), (0, l3), (0, (l4 + 1))]) dL_areWorkers_49 rfl c10 rfl (?_ : Ex _ _ 52 _ _ _ _ _)
            refine x_goto (tgt := 18) dL_areWorkers_52 rfl (?_ : Ex _ _ 18 _ _ _ _ _)
            exact ih h
          · refine x_icmp_eqN dL_areWorkers_40 (by decide) b9 (?_ : Ex _ _ 43 _ _ _ _ _)
            refine x_iconst dL_areWorkers_43 rfl (by decide) (?_ : Ex _ _ 44 _ _ _ _ _)
            refine x_goto (tgt := 48) dL_areWorkers_44 rfl (?_ : Ex _ _ 48 _ _ _ _ _)
            refine x_istore_n (ls2 := [(21, l0), (0, 1), (0, l2), (0, l3), (0, l4)]) dL_areWorkers_48 rfl (Nat.le_of_ble_eq_true rfl) rfl (?_ : Ex _ _ 49 _ _ _ _ _)
            obtain ⟨c11, h⟩ := chk_some h
            refine x_iinc (ls2 := [(21, l0), (0, 1), (0, l2), (0, l3), (0, (l4 + 1))]) dL_areWorkers_49 rfl c11 rfl (?_ : Ex _ _ 52 _ _ _ _ _)
            refine x_goto (tgt := 18) dL_areWorkers_52 rfl (?_ : Ex _ _ 18 _ _ _ _ _)
            exact ih h
theorem e_L_areWorkers_4 (d : Nat) {k125 : Int → Int → Mem → Option R2} (hk125 : ∀ {l0 l1 : Int} {m : Mem} {v : Int} {m' : Mem}, k125 l0 l1 m = some (v, m') → Ex (d + 4) fm_L_areWorkers 125 [(21, l0), (0, l1), (3, 0), (3, 0), (3, 0)] [] m (.inl (0, v)) m') : ∀ (n : Nat) {l0 l1 l2 : Int} {m : Mem} {v : Int} {m' : Mem}, L_areWorkers_4 k125 n l0 l1 l2 m = some (v, m') → Ex (d + 4) fm_L_areWorkers 4 [(21, l0), (0, l1), (0, l2), (3, 0), (3, 0)] [] m (.inl (0, v)) m' := by
  intro n
  induction n with
  | zero =>
    intro l0 l1 l2 m v m' h
    have h : (none : Option R2) = some _ := h
    cases h
  | succ n ih =>
    intro l0 l1 l2 m v m' h
    rw [L_areWorkers_4] at h
    refine x_iload_n dL_areWorkers_4 rfl rfl (?_ : Ex _ _ 5 _ _ _ _ _)
    refine x_iconst dL_areWorkers_5 rfl (by decide) (?_ : Ex _ _ 6 _ _ _ _ _)
    rcases ite_some h with ⟨b1, h⟩ | ⟨b1, h⟩
    · refine x_icmp_ge (tgt := 125) dL_areWorkers_6 rfl b1 (?_ : Ex _ _ 125 _ _ _ _ _)
      refine Ex.wk (ls2 := [(21, l0), (0, l1), (3, 0), (3, 0), (3, 0)]) ⟨Or.inr rfl, Or.inr rfl, Or.inl rfl, Or.inl rfl, Or.inl rfl, trivial⟩ ?_
      exact hk125 h
    · refine x_icmp_geN dL_areWorkers_6 (by decide) b1 (?_ : Ex _ _ 9 _ _ _ _ _)
      refine x_aload_n dL_areWorkers_9 rfl rfl (Or.inr (by decide)) (?_ : Ex _ _ 10 _ _ _ _ _)
      refine x_iload_n dL_areWorkers_10 rfl rfl (?_ : Ex _ _ 11 _ _ _ _ _)
      obtain ⟨c2, h⟩ := chk_some h
      obtain ⟨v3, m4, g5, h⟩ := cal0_some h
      refine cV1 (e_X11_has (d + 1) g5) (cont0 (by decide) (?_ : Ex _ _ 14 _ _ _ _ _)) og_X11_has rfl ml_RL_88 11 rfl rfl c2 im_X11_has se_X11_has (Nat.le_of_ble_eq_true rfl) dL_areWorkers_11
      refine x_istore_n (ls2 := [(21, l0), (0, l1), (0, l2), (0, v3), (3, 0)]) dL_areWorkers_14 rfl (Nat.le_of_ble_eq_true rfl) rfl (?_ : Ex _ _ 15 _ _ _ _ _)
      refine x_iconst dL_areWorkers_15 rfl (by decide) (?_ : Ex _ _ 16 _ _ _ _ _)
      refine x_istore (ls2 := [(21, l0), (0, l1), (0, l2), (0, v3), (0, 0)]) dL_areWorkers_16 (Nat.le_of_ble_eq_true rfl) rfl (?_ : Ex _ _ 18 _ _ _ _ _)
      exact e_L_areWorkers_18 d (fun h => e_L_areWorkers_55 d ih h) fuel9 h
theorem e_L_areWorkers_0 (d : Nat) {l0 : Int} {m : Mem} {v : Int} {m' : Mem} (h : L_areWorkers_0 l0 m = some (v, m')) : Ex (d + 4) fm_L_areWorkers 0 [(21, l0), (3, 0), (3, 0), (3, 0), (3, 0)] [] m (.inl (0, v)) m' := by
  unfold L_areWorkers_0 at h
  refine x_iconst dL_areWorkers_0 rfl (by decide) (?_ : Ex _ _ 1 _ _ _ _ _)
  refine x_istore_n (ls2 := [(21, l0), (0, 1), (3, 0), (3, 0), (3, 0)]) dL_areWorkers_1 rfl (Nat.le_of_ble_eq_true rfl) rfl (?_ : Ex _ _ 2 _ _ _ _ _)
  refine x_iconst dL_areWorkers_2 rfl (by decide) (?_ : Ex _ _ 3 _ _ _ _ _)
  refine x_istore_n (ls2 := [(21, l0), (0, 1), (0, 0), (3, 0), (3, 0)]) dL_areWorkers_3 rfl (Nat.le_of_ble_eq_true rfl) rfl (?_ : Ex _ _ 4 _ _ _ _ _)
  exact e_L_areWorkers_4 d (fun h => e_L_areWorkers_125 d h) fuel9 h
theorem e_L_areWorkers (d : Nat) {a0 : Int} {m : Mem} {v : Int} {m' : Mem} (h : L_areWorkers a0 m = some (v, m')) : ExM (d + 4) fm_L_areWorkers [(21, a0)] m (.inl (0, v)) m' := by
  obtain ⟨hb, h⟩ := boolR_some h
  exact ExM.of (by decide +kernel) (Nat.le_of_ble_eq_true rfl) (cat9 rfl) (retZ hb) (e_L_areWorkers_0 d h)
theorem dL_packed_0 : decode cL_packed 0 = .ok (.iload_n 1, 1) := by decide +kernel
theorem dL_packed_1 : decode cL_packed 1 = .ok (.ifCond .eq 9, 3) := by decide +kernel
theorem dL_packed_4 : decode cL_packed 4 = .ok (.iload_n 1, 1) := by decide +kernel
theorem dL_packed_5 : decode cL_packed 5 = .ok (.bipush 9, 2) := by decide +kernel
theorem dL_packed_7 : decode cL_packed 7 = .ok (.if_icmp .ne 22, 3) := by decide +kernel
theorem dL_packed_10 : decode cL_packed 10 = .ok (.bipush 100, 2) := by decide +kernel
theorem dL_packed_12 : decode cL_packed 12 = .ok (.iload_n 0, 1) := by decide +kernel
theorem dL_packed_13 : decode cL_packed 13 = .ok (.iconst 5, 1) := by decide +kernel
theorem dL_packed_14 : decode cL_packed 14 = .ok (.ishr, 1) := by decide +kernel
theorem dL_packed_15 : decode cL_packed 15 = .ok (.bipush 6, 2) := by decide +kernel
theorem dL_packed_17 : decode cL_packed 17 = .ok (.irem, 1) := by decide +kernel
theorem dL_packed_18 : decode cL_packed 18 = .ok (.imul, 1) := by decide +kernel
theorem dL_packed_19 : decode cL_packed 19 = .ok (.iload_n 0, 1) := by decide +kernel
theorem dL_packed_20 : decode cL_packed 20 = .ok (.bipush 9, 2) := by decide +kernel
theorem dL_packed_22 : decode cL_packed 22 = .ok (.ishr, 1) := by decide +kernel
theorem dL_packed_23 : decode cL_packed 23 = .ok (.iconst 1, 1) := by decide +kernel
theorem dL_packed_24 : decode cL_packed 24 = .ok (.iand, 1) := by decide +kernel
theorem dL_packed_25 : decode cL_packed 25 = .ok (.iadd, 1) := by decide +kernel
theorem dL_packed_26 : decode cL_packed 26 = .ok (.goto 210, 3) := by decide +kernel
theorem dL_packed_29 : decode cL_packed 29 = .ok (.iload_n 1, 1) := by decide +kernel
theorem dL_packed_30 : decode cL_packed 30 = .ok (.iconst 1, 1) := by decide +kernel
theorem dL_packed_31 : decode cL_packed 31 = .ok (.if_icmp .ne 17, 3) := by decide +kernel
theorem dL_packed_34 : decode cL_packed 34 = .ok (.bipush 100, 2) := by decide +kernel
theorem dL_packed_36 : decode cL_packed 36 = .ok (.iconst 1, 1) := by decide +kernel
theorem dL_packed_37 : decode cL_packed 37 = .ok (.iload_n 0, 1) := by decide +kernel
theorem dL_packed_38 : decode cL_packed 38 = .ok (.iconst 5, 1) := by decide +kernel
theorem dL_packed_39 : decode cL_packed 39 = .ok (.ishr, 1) := by decide +kernel
theorem dL_packed_40 : decode cL_packed 40 = .ok (.bipush 9, 2) := by decide +kernel
theorem dL_packed_42 : decode cL_packed 42 = .ok (.irem, 1) := by decide +kernel
theorem dL_packed_43 : decode cL_packed 43 = .ok (.iadd, 1) := by decide +kernel
theorem dL_packed_44 : decode cL_packed 44 = .ok (.imul, 1) := by decide +kernel
theorem dL_packed_45 : decode cL_packed 45 = .ok (.goto 191, 3) := by decide +kernel
theorem dL_packed_48 : decode cL_packed 48 = .ok (.iload_n 1, 1) := by decide +kernel
theorem dL_packed_49 : decode cL_packed 49 = .ok (.iconst 2, 1) := by decide +kernel
theorem dL_packed_50 : decode cL_packed 50 = .ok (.if_icmp .ne 31, 3) := by decide +kernel
theorem dL_packed_53 : decode cL_packed 53 = .ok (.bipush 100, 2) := by decide +kernel
theorem dL_packed_55 : decode cL_packed 55 = .ok (.iload_n 0, 1) := by decide +kernel
theorem dL_packed_56 : decode cL_packed 56 = .ok (.iconst 5, 1) := by decide +kernel
theorem dL_packed_57 : decode cL_packed 57 = .ok (.ishr, 1) := by decide +kernel
theorem dL_packed_58 : decode cL_packed 58 = .ok (.iconst 3, 1) := by decide +kernel
theorem dL_packed_59 : decode cL_packed 59 = .ok (.irem, 1) := by decide +kernel
theorem dL_packed_60 : decode cL_packed 60 = .ok (.imul, 1) := by decide +kernel
theorem dL_packed_61 : decode cL_packed 61 = .ok (.iload_n 0, 1) := by decide +kernel
theorem dL_packed_62 : decode cL_packed 62 = .ok (.bipush 8, 2) := by decide +kernel
theorem dL_packed_64 : decode cL_packed 64 = .ok (.ishr, 1) := by decide +kernel
theorem dL_packed_65 : decode cL_packed 65 = .ok (.iconst 1, 1) := by decide +kernel
theorem dL_packed_66 : decode cL_packed 66 = .ok (.iand, 1) := by decide +kernel
theorem dL_packed_67 : decode cL_packed 67 = .ok (.iconst 1, 1) := by decide +kernel
theorem dL_packed_68 : decode cL_packed 68 = .ok (.iload_n 0, 1) := by decide +kernel
theorem dL_packed_69 : decode cL_packed 69 = .ok (.bipush 9, 2) := by decide +kernel
theorem dL_packed_71 : decode cL_packed 71 = .ok (.ishr, 1) := by decide +kernel
theorem dL_packed_72 : decode cL_packed 72 = .ok (.bipush 9, 2) := by decide +kernel
theorem dL_packed_74 : decode cL_packed 74 = .ok (.irem, 1) := by decide +kernel
theorem dL_packed_75 : decode cL_packed 75 = .ok (.iadd, 1) := by decide +kernel
theorem dL_packed_76 : decode cL_packed 76 = .ok (.imul, 1) := by decide +kernel
theorem dL_packed_77 : decode cL_packed 77 = .ok (.iadd, 1) := by decide +kernel
theorem dL_packed_78 : decode cL_packed 78 = .ok (.goto 158, 3) := by decide +kernel
theorem dL_packed_81 : decode cL_packed 81 = .ok (.iload_n 1, 1) := by decide +kernel
theorem dL_packed_82 : decode cL_packed 82 = .ok (.iconst 3, 1) := by decide +kernel
theorem dL_packed_83 : decode cL_packed 83 = .ok (.if_icmp .ne 21, 3) := by decide +kernel
theorem dL_packed_86 : decode cL_packed 86 = .ok (.bipush 100, 2) := by decide +kernel
theorem dL_packed_88 : decode cL_packed 88 = .ok (.iload_n 0, 1) := by decide +kernel
theorem dL_packed_89 : decode cL_packed 89 = .ok (.iconst 5, 1) := by decide +kernel
theorem dL_packed_90 : decode cL_packed 90 = .ok (.ishr, 1) := by decide +kernel
theorem dL_packed_91 : decode cL_packed 91 = .ok (.iconst 2, 1) := by decide +kernel
theorem dL_packed_92 : decode cL_packed 92 = .ok (.irem, 1) := by decide +kernel
theorem dL_packed_93 : decode cL_packed 93 = .ok (.imul, 1) := by decide +kernel
theorem dL_packed_94 : decode cL_packed 94 = .ok (.iload_n 0, 1) := by decide +kernel
theorem dL_packed_95 : decode cL_packed 95 = .ok (.bipush 8, 2) := by decide +kernel
theorem dL_packed_97 : decode cL_packed 97 = .ok (.ishr, 1) := by decide +kernel
theorem dL_packed_98 : decode cL_packed 98 = .ok (.iconst 3, 1) := by decide +kernel
theorem dL_packed_99 : decode cL_packed 99 = .ok (.irem, 1) := by decide +kernel
theorem dL_packed_100 : decode cL_packed 100 = .ok (.iadd, 1) := by decide +kernel
theorem dL_packed_101 : decode cL_packed 101 = .ok (.goto 135, 3) := by decide +kernel
theorem dL_packed_104 : decode cL_packed 104 = .ok (.iload_n 1, 1) := by decide +kernel
theorem dL_packed_105 : decode cL_packed 105 = .ok (.iconst 4, 1) := by decide +kernel
theorem dL_packed_106 : decode cL_packed 106 = .ok (.if_icmp .ne 8, 3) := by decide +kernel
theorem dL_packed_109 : decode cL_packed 109 = .ok (.bipush 100, 2) := by decide +kernel
theorem dL_packed_111 : decode cL_packed 111 = .ok (.goto 125, 3) := by decide +kernel
theorem dL_packed_114 : decode cL_packed 114 = .ok (.iload_n 1, 1) := by decide +kernel
theorem dL_packed_115 : decode cL_packed 115 = .ok (.bipush 10, 2) := by decide +kernel
theorem dL_packed_117 : decode cL_packed 117 = .ok (.if_icmp .ne 16, 3) := by decide +kernel
theorem dL_packed_120 : decode cL_packed 120 = .ok (.bipush 100, 2) := by decide +kernel
theorem dL_packed_122 : decode cL_packed 122 = .ok (.iload_n 0, 1) := by decide +kernel
theorem dL_packed_123 : decode cL_packed 123 = .ok (.iconst 5, 1) := by decide +kernel
theorem dL_packed_124 : decode cL_packed 124 = .ok (.ishr, 1) := by decide +kernel
theorem dL_packed_125 : decode cL_packed 125 = .ok (.iconst 4, 1) := by decide +kernel
theorem dL_packed_126 : decode cL_packed 126 = .ok (.irem, 1) := by decide +kernel
theorem dL_packed_127 : decode cL_packed 127 = .ok (.imul, 1) := by decide +kernel
theorem dL_packed_128 : decode cL_packed 128 = .ok (.iconst 1, 1) := by decide +kernel
theorem dL_packed_129 : decode cL_packed 129 = .ok (.iadd, 1) := by decide +kernel
theorem dL_packed_130 : decode cL_packed 130 = .ok (.goto 106, 3) := by decide +kernel
theorem dL_packed_133 : decode cL_packed 133 = .ok (.iload_n 1, 1) := by decide +kernel
theorem dL_packed_134 : decode cL_packed 134 = .ok (.bipush 11, 2) := by decide +kernel
theorem dL_packed_136 : decode cL_packed 136 = .ok (.if_icmp .ne 16, 3) := by decide +kernel
theorem dL_packed_139 : decode cL_packed 139 = .ok (.bipush 100, 2) := by decide +kernel
theorem dL_packed_141 : decode cL_packed 141 = .ok (.iconst 1, 1) := by decide +kernel
theorem dL_packed_142 : decode cL_packed 142 = .ok (.iload_n 0, 1) := by decide +kernel
theorem dL_packed_143 : decode cL_packed 143 = .ok (.iconst 5, 1) := by decide +kernel
theorem dL_packed_144 : decode cL_packed 144 = .ok (.ishr, 1) := by decide +kernel
theorem dL_packed_145 : decode cL_packed 145 = .ok (.iconst 4, 1) := by decide +kernel
theorem dL_packed_146 : decode cL_packed 146 = .ok (.irem, 1) := by decide +kernel
theorem dL_packed_147 : decode cL_packed 147 = .ok (.iadd, 1) := by decide +kernel
theorem dL_packed_148 : decode cL_packed 148 = .ok (.imul, 1) := by decide +kernel
theorem dL_packed_149 : decode cL_packed 149 = .ok (.goto 87, 3) := by decide +kernel
theorem dL_packed_152 : decode cL_packed 152 = .ok (.iload_n 1, 1) := by decide +kernel
theorem dL_packed_153 : decode cL_packed 153 = .ok (.bipush 12, 2) := by decide +kernel
theorem dL_packed_155 : decode cL_packed 155 = .ok (.if_icmp .ne 22, 3) := by decide +kernel
theorem dL_packed_158 : decode cL_packed 158 = .ok (.bipush 100, 2) := by decide +kernel
theorem dL_packed_160 : decode cL_packed 160 = .ok (.iload_n 0, 1) := by decide +kernel
theorem dL_packed_161 : decode cL_packed 161 = .ok (.iconst 5, 1) := by decide +kernel
theorem dL_packed_162 : decode cL_packed 162 = .ok (.ishr, 1) := by decide +kernel
theorem dL_packed_163 : decode cL_packed 163 = .ok (.iconst 1, 1) := by decide +kernel
theorem dL_packed_164 : decode cL_packed 164 = .ok (.iand, 1) := by decide +kernel
theorem dL_packed_165 : decode cL_packed 165 = .ok (.imul, 1) := by decide +kernel
theorem dL_packed_166 : decode cL_packed 166 = .ok (.iload_n 0, 1) := by decide +kernel
theorem dL_packed_167 : decode cL_packed 167 = .ok (.bipush 6, 2) := by decide +kernel
theorem dL_packed_169 : decode cL_packed 169 = .ok (.ishr, 1) := by decide +kernel
theorem dL_packed_170 : decode cL_packed 170 = .ok (.bipush 100, 2) := by decide +kernel
theorem dL_packed_172 : decode cL_packed 172 = .ok (.irem, 1) := by decide +kernel
theorem dL_packed_173 : decode cL_packed 173 = .ok (.iadd, 1) := by decide +kernel
theorem dL_packed_174 : decode cL_packed 174 = .ok (.goto 62, 3) := by decide +kernel
theorem dL_packed_177 : decode cL_packed 177 = .ok (.iload_n 1, 1) := by decide +kernel
theorem dL_packed_178 : decode cL_packed 178 = .ok (.bipush 13, 2) := by decide +kernel
theorem dL_packed_180 : decode cL_packed 180 = .ok (.if_icmp .ne 17, 3) := by decide +kernel
theorem dL_packed_183 : decode cL_packed 183 = .ok (.bipush 100, 2) := by decide +kernel
theorem dL_packed_185 : decode cL_packed 185 = .ok (.iconst 1, 1) := by decide +kernel
theorem dL_packed_186 : decode cL_packed 186 = .ok (.iload_n 0, 1) := by decide +kernel
theorem dL_packed_187 : decode cL_packed 187 = .ok (.iconst 5, 1) := by decide +kernel
theorem dL_packed_188 : decode cL_packed 188 = .ok (.ishr, 1) := by decide +kernel
theorem dL_packed_189 : decode cL_packed 189 = .ok (.bipush 9, 2) := by decide +kernel
theorem dL_packed_191 : decode cL_packed 191 = .ok (.irem, 1) := by decide +kernel
theorem dL_packed_192 : decode cL_packed 192 = .ok (.iadd, 1) := by decide +kernel
theorem dL_packed_193 : decode cL_packed 193 = .ok (.imul, 1) := by decide +kernel
theorem dL_packed_194 : decode cL_packed 194 = .ok (.goto 42, 3) := by decide +kernel
theorem dL_packed_197 : decode cL_packed 197 = .ok (.iload_n 1, 1) := by decide +kernel
theorem dL_packed_198 : decode cL_packed 198 = .ok (.bipush 7, 2) := by decide +kernel
theorem dL_packed_200 : decode cL_packed 200 = .ok (.if_icmp .ge 17, 3) := by decide +kernel
theorem dL_packed_203 : decode cL_packed 203 = .ok (.bipush 100, 2) := by decide +kernel
theorem dL_packed_205 : decode cL_packed 205 = .ok (.iload_n 0, 1) := by decide +kernel
theorem dL_packed_206 : decode cL_packed 206 = .ok (.iconst 5, 1) := by decide +kernel
theorem dL_packed_207 : decode cL_packed 207 = .ok (.ishr, 1) := by decide +kernel
theorem dL_packed_208 : decode cL_packed 208 = .ok (.bipush 30, 2) := by decide +kernel
theorem dL_packed_210 : decode cL_packed 210 = .ok (.irem, 1) := by decide +kernel
theorem dL_packed_211 : decode cL_packed 211 = .ok (.imul, 1) := by decide +kernel
theorem dL_packed_212 : decode cL_packed 212 = .ok (.iconst 1, 1) := by decide +kernel
theorem dL_packed_213 : decode cL_packed 213 = .ok (.iadd, 1) := by decide +kernel
theorem dL_packed_214 : decode cL_packed 214 = .ok (.goto 22, 3) := by decide +kernel
theorem dL_packed_217 : decode cL_packed 217 = .ok (.iload_n 1, 1) := by decide +kernel
theorem dL_packed_218 : decode cL_packed 218 = .ok (.bipush 9, 2) := by decide +kernel
theorem dL_packed_220 : decode cL_packed 220 = .ok (.if_icmp .ge 15, 3) := by decide +kernel
theorem dL_packed_223 : decode cL_packed 223 = .ok (.bipush 100, 2) := by decide +kernel
theorem dL_packed_225 : decode cL_packed 225 = .ok (.iload_n 0, 1) := by decide +kernel
theorem dL_packed_226 : decode cL_packed 226 = .ok (.iconst 5, 1) := by decide +kernel
theorem dL_packed_227 : decode cL_packed 227 = .ok (.ishr, 1) := by decide +kernel
theorem dL_packed_228 : decode cL_packed 228 = .ok (.bipush 40, 2) := by decide +kernel
theorem dL_packed_230 : decode cL_packed 230 = .ok (.irem, 1) := by decide +kernel
theorem dL_packed_231 : decode cL_packed 231 = .ok (.imul, 1) := by decide +kernel
theorem dL_packed_232 : decode cL_packed 232 = .ok (.goto 4, 3) := by decide +kernel
theorem dL_packed_235 : decode cL_packed 235 = .ok (.iconst 0, 1) := by decide +kernel
theorem dL_packed_236 : decode cL_packed 236 = .ok (.ireturn, 1) := by decide +kernel
theorem e_L_packed_10 (d : Nat) {l0 : Int} {m : Mem} {v : Int} {m' : Mem} (h : L_packed_10 l0 m = some (v, m')) : Ex d fm_L_packed 10 [(0, l0), (3, 0)] [] m (.inl (0, v)) m' := by
  unfold L_packed_10 at h
  refine x_bipush dL_packed_10 kb_100 (by decide) (?_ : Ex _ _ 12 _ _ _ _ _)
  refine x_iload_n dL_packed_12 rfl rfl (?_ : Ex _ _ 13 _ _ _ _ _)
  refine x_iconst dL_packed_13 rfl (by decide) (?_ : Ex _ _ 14 _ _ _ _ _)
  refine x_ishr dL_packed_14 (?_ : Ex _ _ 15 _ _ _ _ _)
  refine x_bipush dL_packed_15 kb_6 (by decide) (?_ : Ex _ _ 17 _ _ _ _ _)
  obtain ⟨c1, h⟩ := chk_some h
  refine x_irem dL_packed_17 c1 (by decide) (?_ : Ex _ _ 18 _ _ _ _ _)
  obtain ⟨c2, h⟩ := chk_some h
  refine x_imul dL_packed_18 c2 (?_ : Ex _ _ 19 _ _ _ _ _)
  refine x_iload_n dL_packed_19 rfl rfl (?_ : Ex _ _ 20 _ _ _ _ _)
  refine x_bipush dL_packed_20 kb_9 (by decide) (?_ : Ex _ _ 22 _ _ _ _ _)
  refine x_ishr dL_packed_22 (?_ : Ex _ _ 23 _ _ _ _ _)
  refine x_iconst dL_packed_23 rfl (by decide) (?_ : Ex _ _ 24 _ _ _ _ _)
  refine x_iand dL_packed_24 (?_ : Ex _ _ 25 _ _ _ _ _)
  obtain ⟨c3, h⟩ := chk_some h
  refine x_iadd dL_packed_25 c3 (?_ : Ex _ _ 26 _ _ _ _ _)
  refine x_goto (tgt := 236) dL_packed_26 rfl (?_ : Ex _ _ 236 _ _ _ _ _)
  cases h
  exact x_ret dL_packed_236 (by decide : (0 : Int) ≠ 3)
theorem e_L_packed_0 (d : Nat) {l0 l1 : Int} {m : Mem} {v : Int} {m' : Mem} (h : L_packed_0 l0 l1 m = some (v, m')) : Ex d fm_L_packed 0 [(0, l0), (0, l1)] [] m (.inl (0, v)) m' := by
  unfold L_packed_0 at h
  refine x_iload_n dL_packed_0 rfl rfl (?_ : Ex _ _ 1 _ _ _ _ _)
  rcases ite_some h with ⟨b1, h⟩ | ⟨b1, h⟩
  · refine x_if_eq (tgt := 10) dL_packed_1 rfl b1 (?_ : Ex _ _ 10 _ _ _ _ _)
    refine Ex.wk (ls2 := [(0, l0), (3, 0)]) ⟨Or.inr rfl, Or.inl rfl, trivial⟩ ?_
    exact e_L_packed_10 d h
  · refine x_if_eqN dL_packed_1 (by decide) b1 (?_ : Ex _ _ 4 _ _ _ _ _)
    refine x_iload_n dL_packed_4 rfl rfl (?_ : Ex _ _ 5 _ _ _ _ _)
    refine x_bipush dL_packed_5 kb_9 (by decide) (?_ : Ex _ _ 7 _ _ _ _ _)
    rcases ite_some h with ⟨b2, h⟩ | ⟨b2, h⟩
    · refine x_icmp_neN dL_packed_7 (by decide) (fun hh => hh b2) (?_ : Ex _ _ 10 _ _ _ _ _)
      refine Ex.wk (ls2 := [(0, l0), (3, 0)]) ⟨Or.inr rfl, Or.inl rfl, trivial⟩ ?_
      exact e_L_packed_10 d h
    · refine x_icmp_ne (tgt := 29) dL_packed_7 rfl b2 (?_ : Ex _ _ 29 _ _ _ _ _)
      refine x_iload_n dL_packed_29 rfl rfl (?_ : Ex _ _ 30 _ _ _ _ _)
      refine x_iconst dL_packed_30 rfl (by decide) (?_ : Ex _ _ 31 _ _ _ _ _)
      rcases ite_some h with ⟨b3, h⟩ | ⟨b3, h⟩
      · refine x_icmp_neN dL_packed_31 (by decide) (fun hh => hh b3) (?_ : Ex _ _ 34 _ _ _ _ _)
        refine x_bipush dL_packed_34 kb_100 (by decide) (?_ : Ex _ _ 36 _ _ _ _ _)
        refine x_iconst dL_packed_36 rfl (by decide) (?_ : Ex _ _ 37 _ _ _ _ _)
        refine x_iload_n dL_packed_37 rfl rfl (?_ : Ex _ _ 38 _ _ _ _ _)
        refine x_iconst dL_packed_38 rfl (by decide) (?_ : Ex _ _ 39 _ _ _ _ _)
        refine x_ishr dL_packed_39 (?_ : Ex _ _ 40 _ _ _ _ _)
        refine x_bipush dL_packed_40 kb_9 (by decide) (?_ : Ex _ _ 42 _ _ _ _ _)
        obtain ⟨c40, h⟩ := chk_some h
        refine x_irem dL_packed_42 c40 (by decide) (?_ : Ex _ _ 43 _ _ _ _ _)
        obtain ⟨c41, h⟩ := chk_some h
        refine x_iadd dL_packed_43 c41 (?_ : Ex _ _ 44 _ _ _ _ _)
        obtain ⟨c42, h⟩ := chk_some h
        refine x_imul dL_packed_44 c42 (?_ : Ex _ _ 45 _ _ _ _ _)
        refine x_goto (tgt := 236) dL_packed_45 rfl (?_ : Ex _ _ 236 _ _ _ _ _)
        cases h
        exact x_ret dL_packed_236 (by decide : (0 : Int) ≠ 3)
      · refine x_icmp_ne (tgt := 48) dL_packed_31 rfl b3 (?_ : Ex _ _ 48 _ _ _ _ _)
        refine x_iload_n dL_packed_48 rfl rfl (?_ : Ex _ _ 49 _ _ _ _ _)
        refine x_iconst dL_packed_49 rfl (by decide) (?_ : Ex _ _ 50 _ _ _ _ _)
        rcases ite_some h with ⟨b4, h⟩ | ⟨b4, h⟩
        · refine x_icmp_neN dL_packed_50 (by decide) (fun hh => hh b4) (?_ : Ex _ _ 53 _ _ _ _ _)
          refine x_bipush dL_packed_53 kb_100 (by decide) (?_ : Ex _ _ 55 _ _ _ _ _)
          refine x_iload_n dL_packed_55 rfl rfl (?_ : Ex _ _ 56 _ _ _ _ _)
          refine x_iconst dL_packed_56 rfl (by decide) (?_ : Ex _ _ 57 _ _ _ _ _)
          refine x_ishr dL_packed_57 (?_ : Ex _ _ 58 _ _ _ _ _)
          refine x_iconst dL_packed_58 rfl (by decide) (?_ : Ex _ _ 59 _ _ _ _ _)
          obtain ⟨c34, h⟩ := chk_some h
          refine x_irem dL_packed_59 c34 (by decide) (?_ : Ex _ _ 60 _ _ _ _ _)
          obtain ⟨c35, h⟩ := chk_some h
          refine x_imul dL_packed_60 c35 (?_ : Ex _ _ 61 _ _ _ _ _)
          refine x_iload_n dL_packed_61 rfl rfl (?_ : Ex _ _ 62 _ _ _ _ _)
          refine x_bipush dL_packed_62 kb_8 (by decide) (?_ : Ex _ _ 64 _ _ _ _ _)
          refine x_ishr dL_packed_64 (?_ : Ex _ _ 65 _ _ _ _ _)
          refine x_iconst dL_packed_65 rfl (by decide) (?_ : Ex _ _ 66 _ _ _ _ _)
          refine x_iand dL_packed_66 (?_ : Ex _ _ 67 _ _ _ _ _)
          refine x_iconst dL_packed_67 rfl (by decide) (?_ : Ex _ _ 68 _ _ _ _ _)
          refine x_iload_n dL_packed_68 rfl rfl (?_ : Ex _ _ 69 _ _ _ _ _)
          refine x_bipush dL_packed_69 kb_9 (by decide) (?_ : Ex _ _ 71 _ _ _ _ _)
          refine x_ishr dL_packed_71 (?_ : Ex _ _ 72 _ _ _ _ _)
          refine x_bipush dL_packed_72 kb_9 (by decide) (?_ : Ex _ _ 74 _ _ _ _ _)
          obtain ⟨c36, h⟩ := chk_some h
          refine x_irem dL_packed_74 c36 (by decide) (?_ : Ex _ _ 75 _ _ _ _ _)
          obtain ⟨c37, h⟩ := chk_some h
          refine x_iadd dL_packed_75 c37 (?_ : Ex _ _ 76 _ _ _ _ _)
          obtain ⟨c38, h⟩ := chk_some h
          refine x_imul dL_packed_76 c38 (?_ : Ex _ _ 77 _ _ _ _ _)
          obtain ⟨c39, h⟩ := chk_some h
          refine x_iadd dL_packed_77 c39 (?_ : Ex _ _ 78 _ _ _ _ _)
          refine x_goto (tgt := 236) dL_packed_78 rfl (?_ : Ex _ _ 236 _ _ _ _ _)
          cases h
          exact x_ret dL_packed_236 (by decide : (0 : Int) ≠ 3)
        · refine x_icmp_ne (tgt := 81) dL_packed_50 rfl b4 (?_ : Ex _ _ 81 _ _ _ _ _)
          refine x_iload_n dL_packed_81 rfl rfl (?_ : Ex _ _ 82 _ _ _ _ _)
          refine x_iconst dL_packed_82 rfl (by decide) (?_ : Ex _ _ 83 _ _ _ _ _)
          rcases ite_some h with ⟨b5, h⟩ | ⟨b5, h⟩
          · refine x_icmp_neN dL_packed_83 (by decide) (fun hh => hh b5) (?_ : Ex _ _ 86 _ _ _ _ _)
            refine x_bipush dL_packed_86 kb_100 (by decide) (?_ : Ex _ _ 88 _ _ _ _ _)
            refine x_iload_n dL_packed_88 rfl rfl (?_ : Ex _ _ 89 _ _ _ _ _)
            refine x_iconst dL_packed_89 rfl (by decide) (?_ : Ex _ _ 90 _ _ _ _ _)
            refine x_ishr dL_packed_90 (?_ : Ex _ _ 91 _ _ _ _ _)
            refine x_iconst dL_packed_91 rfl (by decide) (?_ : Ex _ _ 92 _ _ _ _ _)
            obtain ⟨c30, h⟩ := chk_some h
            refine x_irem dL_packed_92 c30 (by decide) (?_ : Ex _ _ 93 _ _ _ _ _)
            obtain ⟨c31, h⟩ := chk_some h
            refine x_imul dL_packed_93 c31 (?_ : Ex _ _ 94 _ _ _ _ _)
            refine x_iload_n dL_packed_94 rfl rfl (?_ : Ex _ _ 95 _ _ _ _ _)
            refine x_bipush dL_packed_95 kb_8 (by decide) (?_ : Ex _ _ 97 _ _ _ _ _)
            refine x_ishr dL_packed_97 (?_ : Ex _ _ 98 _ _ _ _ _)
            refine x_iconst dL_packed_98 rfl (by decide) (?_ : Ex _ _ 99 _ _ _ _ _)
            obtain ⟨c32, h⟩ := chk_some h
            refine x_irem dL_packed_99 c32 (by decide) (?_ : Ex _ _ 100 _ _ _ _ _)
            obtain ⟨c33, h⟩ := chk_some h
            refine x_iadd dL_packed_100 c33 (?_ : Ex _ _ 101 _ _ _ _ _)
            refine x_goto (tgt := 236) dL_packed_101 rfl (?_ : Ex _ _ 236 _ _ _ _ _)
            cases h
            exact x_ret dL_packed_236 (by decide : (0 : Int) ≠ 3)
          · refine x_icmp_ne (tgt := 104) dL_packed_83 rfl b5 (?_ : Ex _ _ 104 _ _ _ _ _)
            refine x_iload_n dL_packed_104 rfl rfl (?_ : Ex _ _ 105 _ _ _ _ _)
            refine x_iconst dL_packed_105 rfl (by decide) (?_ : Ex _ _ 106 _ _ _ _ _)
            rcases ite_some h with ⟨b6, h⟩ | ⟨b6, h⟩
            · refine x_icmp_neN dL_packed_106 (by decide) (fun hh => hh b6) (?_ : Ex _ _ 109 _ _ _ _ _)
              refine x_bipush dL_packed_109 kb_100 (by decide) (?_ : Ex _ _ 111 _ _ _ _ _)
              refine x_goto (tgt := 236) dL_packed_111 rfl (?_ : Ex _ _ 236 _ _ _ _ _)
              cases h
              exact x_ret dL_packed_236 (by decide : (0 : Int) ≠ 3)
            · refine x_icmp_ne (tgt := 114) dL_packed_106 rfl b6 (?_ : Ex _ _ 114 _ _ _ _ _)
              refine x_iload_n dL_packed_114 rfl rfl (?_ : Ex _ _ 115 _ _ _ _ _)
              refine x_bipush dL_packed_115 kb_10 (by decide) (?_ : Ex _ _ 117 _ _ _ _ _)
              rcases ite_some h with ⟨b7, h⟩ | ⟨b7, h⟩
              · refine x_icmp_neN dL_packed_117 (by decide) (fun hh => hh b7) (?_ : Ex _ _ 120 _ _ _ _ _)
                refine x_bipush dL_packed_120 kb_100 (by decide) (?_ : Ex _ _ 122 _ _ _ _ _)
                refine x_iload_n dL_packed_122 rfl rfl (?_ : Ex _ _ 123 _ _ _ _ _)
                refine x_iconst dL_packed_123 rfl (by decide) (?_ : Ex _ _ 124 _ _ _ _ _)
                refine x_ishr dL_packed_124 (?_ : Ex _ _ 125 _ _ _ _ _)
                refine x_iconst dL_packed_125 rfl (by decide) (?_ : Ex _ _ 126 _ _ _ _ _)
                obtain ⟨c27, h⟩ := chk_some h
                refine x_irem dL_packed_126 c27 (by decide) (?_ : Ex _ _ 127 _ _ _ _ _)
                obtain ⟨c28, h⟩ := chk_some h
                refine x_imul dL_packed_127 c28 (?_ : Ex _ _ 128 _ _ _ _ _)
                refine x_iconst dL_packed_128 rfl (by decide) (?_ : Ex _ _ 129 _ _ _ _ _)
                obtain ⟨c29, h⟩ := chk_some h
                refine x_iadd dL_packed_129 c29 (?_ : Ex _ _ 130 _ _ _ _ _)
                refine x_goto (tgt := 236) dL_packed_130 rfl (?_ : Ex _ _ 236 _ _ _ _ _)
                cases h
                exact x_ret dL_packed_236 (by decide : (0 : Int) ≠ 3)
              · refine x_icmp_ne (tgt := 133) dL_packed_117 rfl b7 (?_ : Ex _ _ 133 _ _ _ _ _)
                refine x_iload_n dL_packed_133 rfl rfl (?_ : Ex _ _ 134 _ _ _ _ _)
                refine x_bipush dL_packed_134 kb_11 (by decide) (?_ : Ex _ _ 136 _ _ _ _ _)
                rcases ite_some h with ⟨b8, h⟩ | ⟨b8, h⟩
                · refine x_icmp_neN dL_packed_136 (by decide) (fun hh => hh b8) (?_ : Ex _ _ 139 _ _ _ _ _)
                  refine x_bipush dL_packed_139 kb_100 (by decide) (?_ : Ex _ _ 141 _ _ _ _ _)
                  refine x_iconst dL_packed_141 rfl (by decide) (?_ : Ex _ _ 142 _ _ _ _ _)
                  refine x_iload_n dL_packed_142 rfl rfl (?_ : Ex _ _ 143 _ _ _ _ _)
                  refine x_iconst dL_packed_143 rfl (by decide) (?_ : Ex _ _ 144 _ _ _ _ _)
                  refine x_ishr dL_packed_144 (?_ : Ex _ _ 145 _ _ _ _ _)
                  refine x_iconst dL_packed_145 rfl (by decide) (?_ : Ex _ _ 146 _ _ _ _ _)
                  obtain ⟨c24, h⟩ := chk_some h
                  refine x_irem dL_packed_146 c24 (by decide) (?_ : Ex _ _ 147 _ _ _ _ _)
                  obtain ⟨c25, h⟩ := chk_some h
                  refine x_iadd dL_packed_147 c25 (?_ : Ex _ _ 148 _ _ _ _ _)
                  obtain ⟨c26, h⟩ := chk_some h
                  refine x_imul dL_packed_148 c26 (?_ : Ex _ _ 149 _ _ _ _ _)
                  refine x_goto (tgt := 236) dL_packed_149 rfl (?_ : Ex _ _ 236 _ _ _ _ _)
                  cases h
                  exact x_ret dL_packed_236 (by decide : (0 : Int) ≠ 3)
                · refine x_icmp_ne (tgt := 152) dL_packed_136 rfl b8 (?_ : Ex _ _ 152 _ _ _ _ _)
                  refine x_iload_n dL_packed_152 rfl rfl (?_ : Ex _ _ 153 _ _ _ _ _)
                  refine x_bipush dL_packed_153 kb_12 (by decide) (?_ : Ex _ _ 155 _ _ _ _ _)
                  rcases ite_some h with ⟨b9, h⟩ | ⟨b9, h⟩
                  · refine x_icmp_neN dL_packed_155 (by decide) (fun hh => hh b9) (?_ : Ex _ _ 158 _ _ _ _ _)
                    refine x_bipush dL_packed_158 kb_100 (by decide) (?_ : Ex _ _ 160 _ _ _ _ _)
                    refine x_iload_n dL_packed_160 rfl rfl (?_ : Ex _ _ 161 _ _ _ _ _)
                    refine x_iconst dL_packed_161 rfl (by decide) (?_ : Ex _ _ 162 _ _ _ _ _)
                    refine x_ishr dL_packed_162 (?_ : Ex _ _ 163 _ _ _ _ _)
                    refine x_iconst dL_packed_163 rfl (by decide) (?_ : Ex _ _ 164 _ _ _ _ _)
                    refine x_iand dL_packed_164 (?_ : Ex _ _ 165 _ _ _ _ _)
                    obtain ⟨c21, h⟩ := chk_some h
                    refine x_imul dL_packed_165 c21 (?_ : Ex _ _ 166 _ _ _ _ _)
                    refine x_iload_n dL_packed_166 rfl rfl (?_ : Ex _ _ 167 _ _ _ _ _)
                    refine x_bipush dL_packed_167 kb_6 (by decide) (?_ : Ex _ _ 169 _ _ _ _ _)
                    refine x_ishr dL_packed_169 (?_ : Ex _ _ 170 _ _ _ _ _)
                    refine x_bipush dL_packed_170 kb_100 (by decide) (?_ : Ex _ _ 172 _ _ _ _ _)
                    obtain ⟨c22, h⟩ := chk_some h
                    refine x_irem dL_packed_172 c22 (by decide) (?_ : Ex _ _ 173 _ _ _ _ _)
                    obtain ⟨c23, h⟩ := chk_some h
                    refine x_iadd dL_packed_173 c23 (?_ : Ex _ _ 174 _ _ _ _ _)
                    refine x_goto (tgt := 236) dL_packed_174 rfl (?_ : Ex _ _ 236 _ _ _ _ _)
                    cases h
                    exact x_ret dL_packed_236 (by decide : (0 : Int) ≠ 3)
                  · refine x_icmp_ne (tgt := 177) dL_packed_155 rfl b9 (?_ : Ex _ _ 177 _ _ _ _ _)
                    refine x_iload_n dL_packed_177 rfl rfl (?_ : Ex _ _ 178 _ _ _ _ _)
                    refine x_bipush dL_packed_178 kb_13 (by decide) (?_ : Ex _ _ 180 _ _ _ _ _)
                    rcases ite_some h with ⟨b10, h⟩ | ⟨b10, h⟩
                    · refine x_icmp_neN dL_packed_180 (by decide) (fun hh => hh b10) (?_ : Ex _ _ 183 _ _ _ _ _)
                      refine x_bipush dL_packed_183 kb_100 (by decide) (?_ : Ex _ _ 185 _ _ _ _ _)
                      refine x_iconst dL_packed_185 rfl (by decide) (?_ : Ex _ _ 186 _ _ _ _ _)
                      refine x_iload_n dL_packed_186 rfl rfl (?_ : Ex _ _ 187 _ _ _ _ _)
                      refine x_iconst dL_packed_187 rfl (by decide) (?_ : Ex _ _ 188 _ _ _ _ _)
                      refine x_ishr dL_packed_188 (?_ : Ex _ _ 189 _ _ _ _ _)
                      refine x_bipush dL_packed_189 kb_9 (by decide) (?_ : Ex _ _ 191 _ _ _ _ _)
                      obtain ⟨c18, h⟩ := chk_some h
                      refine x_irem dL_packed_191 c18 (by decide) (?_ : Ex _ _ 192 _ _ _ _ _)
                      obtain ⟨c19, h⟩ := chk_some h
                      refine x_iadd dL_packed_192 c19 (?_ : Ex _ _ 193 _ _ _ _ _)
                      obtain ⟨c20, h⟩ := chk_some h
                      refine x_imul dL_packed_193 c20 (?_ : Ex _ _ 194 _ _ _ _ _)
                      refine x_goto (tgt := 236) dL_packed_194 rfl (?_ : Ex _ _ 236 _ _ _ _ _)
                      cases h
                      exact x_ret dL_packed_236 (by decide : (0 : Int) ≠ 3)
                    · refine x_icmp_ne (tgt := 197) dL_packed_180 rfl b10 (?_ : Ex _ _ 197 _ _ _ _ _)
                      refine x_iload_n dL_packed_197 rfl rfl (?_ : Ex _ _ 198 _ _ _ _ _)
                      refine x_bipush dL_packed_198 kb_7 (by decide) (?_ : Ex _ _ 200 _ _ _ _ _)
                      rcases ite_some h with ⟨b11, h⟩ | ⟨b11, h⟩
                      · refine x_icmp_ge (tgt := 217) dL_packed_200 rfl b11 (?_ : Ex _ _ 217 _ _ _ _ _)
                        refine x_iload_n dL_packed_217 rfl rfl (?_ : Ex _ _ 218 _ _ _ _ _)
                        refine x_bipush dL_packed_218 kb_9 (by decide) (?_ : Ex _ _ 220 _ _ _ _ _)
                        rcases ite_some h with ⟨b12, h⟩ | ⟨b12, h⟩
                        · refine x_icmp_ge (tgt := 235) dL_packed_220 rfl b12 (?_ : Ex _ _ 235 _ _ _ _ _)
                          refine x_iconst dL_packed_235 rfl (by decide) (?_ : Ex _ _ 236 _ _ _ _ _)
                          cases h
                          exact x_ret dL_packed_236 (by decide : (0 : Int) ≠ 3)
                        · refine x_icmp_geN dL_packed_220 (by decide) b12 (?_ : Ex _ _ 223 _ _ _ _ _)
                          refine x_bipush dL_packed_223 kb_100 (by decide) (?_ : Ex _ _ 225 _ _ _ _ _)
                          refine x_iload_n dL_packed_225 rfl rfl (?_ : Ex _ _ 226 _ _ _ _ _)
                          refine x_iconst dL_packed_226 rfl (by decide) (?_ : Ex _ _ 227 _ _ _ _ _)
                          refine x_ishr dL_packed_227 (?_ : Ex _ _ 228 _ _ _ _ _)
                          refine x_bipush dL_packed_228 kb_40 (by decide) (?_ : Ex _ _ 230 _ _ _ _ _)
                          obtain ⟨c13, h⟩ := chk_some h
                          refine x_irem dL_packed_230 c13 (by decide) (?_ : Ex _ _ 231 _ _ _ _ _)
                          obtain ⟨c14, h⟩ := chk_some h
                          refine x_imul dL_packed_231 c14 (?_ : Ex _ _ 232 _ _ _ _ _)
                          refine x_goto (tgt := 236) dL_packed_232 rfl (?_ : Ex _ _ 236 _ _ _ _ _)
                          cases h
                          exact x_ret dL_packed_236 (by decide : (0 : Int) ≠ 3)
                      · refine x_icmp_geN dL_packed_200 (by decide) b11 (?_ : Ex _ _ 203 _ _ _ _ _)
                        refine x_bipush dL_packed_203 kb_100 (by decide) (?_ : Ex _ _ 205 _ _ _ _ _)
                        refine x_iload_n dL_packed_205 rfl rfl (?_ : Ex _ _ 206 _ _ _ _ _)
                        refine x_iconst dL_packed_206 rfl (by decide) (?_ : Ex _ _ 207 _ _ _ _ _)
                        refine x_ishr dL_packed_207 (?_ : Ex _ _ 208 _ _ _ _ _)
                        refine x_bipush dL_packed_208 kb_30 (by decide) (?_ : Ex _ _ 210 _ _ _ _ _)
                        obtain ⟨c15, h⟩ := chk_some h
                        refine x_irem dL_packed_210 c15 (by decide) (?_ : Ex _ _ 211 _ _ _ _ _)
                        obtain ⟨c16, h⟩ := chk_some h
                        refine x_imul dL_packed_211 c16 (?_ : Ex _ _ 212 _ _ _ _ _)
                        refine x_iconst dL_packed_212 rfl (by decide) (?_ : Ex _ _ 213 _ _ _ _ _)
                        obtain ⟨c17, h⟩ := chk_some h
                        refine x_iadd dL_packed_213 c17 (?_ : Ex _ _ 214 _ _ _ _ _)
                        refine x_goto (tgt := 236) dL_packed_214 rfl (?_ : Ex _ _ 236 _ _ _ _ _)
                        cases h
                        exact x_ret dL_packed_236 (by decide : (0 : Int) ≠ 3)
theorem e_L_packed (d : Nat) {a0 a1 : Int} {m : Mem} {v : Int} {m' : Mem} (h : L_packed a0 a1 m = some (v, m')) : ExM d fm_L_packed [(0, a0), (0, a1)] m (.inl (0, v)) m' := by
  exact ExM.of (by decide +kernel) (Nat.le_of_ble_eq_true rfl) (cat9 rfl) retI (e_L_packed_0 d h)
